set_option maxRecDepth 100000 in
set_option maxHeartbeats 4000000 in
theorem qX10_isEither (l : Launch) (g : G) (hg : gOK g) {a0 : Int32}  {s0 σe : St} {v : Int32} (h : mX10_isEither a0 s0 = some (v, σe)) : Mc l g yX10_isEither cX10_isEither 1 (some .boolean) { frames := 0, cells := 0, slots := 0, locals := 0 } [.int a0] s0 (some (.int v)) σe := by
  refine k_enter hg pnRX10 rfl (Nat.le_of_ble_eq_true rfl) ?_
  intro WK E
  have C := kX_y E
  unfold mX10_isEither at h
  show WK 0 [(0, .int a0)] [] s0
  refine k_iload_n C (dk dX10_isEither_0 0 rfl) rfl 0 rfl ?_
  refine kl_J (P := (fun J9 => ∀ (s1 : St), J9 s1 = some (v, σe) → WK 9 [] [] s1)) h (fun s1 h => ?_) (fun J9 hJ9 h => ?_)
  ·
    unfold mX10_isEither_9 at h
    refine k_iconst (v := (1 : Int32)) C (dk dX10_isEither_0 5 rfl) (by decide) ?_
    refine k_goto (tgt := 14) C (dk dX10_isEither_0 6 rfl) (by decide) ?_
    exact k_zret E (dk dX10_isEither_0 8 rfl) h
  ·
    refine k_if_eq (tgt := 9) C (dk dX10_isEither_0 1 rfl) (by decide) h (fun h => ?_) (fun h => ?_)
    ·
      refine k_sub C [] rfl ?_
      exact hJ9 _ h
    ·
      refine k_iload_n C (dk dX10_isEither_0 2 rfl) rfl 0 rfl ?_
      refine k_iconst (v := (1 : Int32)) C (dk dX10_isEither_0 3 rfl) (by decide) ?_
      refine k_icmp_ne (tgt := 13) C (dk dX10_isEither_0 4 rfl) (by decide) h (fun h => ?_) (fun h => ?_)
      ·
        refine k_iconst (v := (0 : Int32)) C (dk dX10_isEither_0 7 rfl) (by decide) ?_
        exact k_zret E (dk dX10_isEither_0 8 rfl) h
      ·
        refine k_sub C [] rfl ?_
        exact hJ9 _ h
set_option maxRecDepth 100000 in
set_option maxHeartbeats 4000000 in
theorem qX8_isWintered (l : Launch) (g : G) (hg : gOK g) {a0 : Int32} {o1 : Nat} (ho1 : kd o1 = 1) {s0 σe : St} {v : Int32} (h : mX8_isWintered a0 o1 s0 = some (v, σe)) : Mc l g yX8_isWintered cX8_isWintered 2 (some .boolean) { frames := 1, cells := 0, slots := 0, locals := 20 } [.int a0, .ref (g.2.2 o1)] s0 (some (.int v)) σe := by
  refine k_enter hg pnRX8 rfl (Nat.le_of_ble_eq_true rfl) ?_
  intro WK E
  have C := kX_y E
  unfold mX8_isWintered at h
  show WK 0 [(0, .int a0), (1, .ref (g.2.2 o1))] [] s0
  refine k_iload_n C (dk dX8_isWintered_0 0 rfl) rfl 0 rfl ?_
  refine cl2_k h (fun x2 s1 hc h => ?_)
  refine k_cn (As := [.int a0]) (st := []) C (qX10_isEither l g hg hc) (iW6 _ (List.mem_of_getElem? (i := 23) rfl)) rfl rfl (List.mem_of_getElem? (i := 3) rfl) (iW6 _ (List.mem_of_getElem? (i := 22) rfl)) (iW0 _ (List.mem_of_getElem? (i := 2) rfl)) hdX10_isEither (by decide) rfl rfl (Nat.le_of_ble_eq_true rfl) (dk dX8_isWintered_0 1 rfl) ?_
  refine k_if_ne (tgt := 9) C (dk dX8_isWintered_0 2 rfl) (by decide) h (fun h => ?_) (fun h => ?_)
  ·
    refine k_aload_n C (dk dX8_isWintered_0 5 rfl) rfl 1 rfl ?_
    refine k_iload_n C (dk dX8_isWintered_0 6 rfl) rfl 0 rfl ?_
    refine k_putI (D := RX3) (T := TX3) (N := 10) (ci := 1) (k := 2) C iCX3 tyX3_ok nmX3 ho1 (by decide) rfl (by decide) (iW6 _ (List.mem_of_getElem? (i := 21) rfl)) rfl rfl flq1_2 flp1_2 (dk dX8_isWintered_0 7 rfl) h (fun s3 h => ?_)
    refine k_iconst (v := (1 : Int32)) C (dk dX8_isWintered_0 8 rfl) (by decide) ?_
    exact k_zret E (dk dX8_isWintered_0 9 rfl) h
  ·
    refine k_iconst (v := (0 : Int32)) C (dk dX8_isWintered_0 3 rfl) (by decide) ?_
    exact k_zret E (dk dX8_isWintered_0 4 rfl) h
set_option maxRecDepth 100000 in
set_option maxHeartbeats 4000000 in
theorem qX8_isDone (l : Launch) (g : G) (hg : gOK g) {o0 : Nat} {a1 : Int32} {o2 : Nat} (ho0 : kd o0 = 3) (ho2 : kd o2 = 1) {s0 σe : St} {v : Int32} (h : mX8_isDone o0 a1 o2 s0 = some (v, σe)) : Mc l g yX8_isDone cX8_isDone 3 (some .boolean) { frames := 5, cells := 0, slots := 0, locals := 114 } [.ref (g.2.2 o0), .int a1, .ref (g.2.2 o2)] s0 (some (.int v)) σe := by
  refine k_enter hg pnRX8 rfl (Nat.le_of_ble_eq_true rfl) ?_
  intro WK E
  have C := kX_y E
  unfold mX8_isDone at h
  show WK 0 [(0, .ref (g.2.2 o0)), (1, .int a1), (2, .ref (g.2.2 o2))] [] s0
  refine k_aload_n C (dk dX8_isDone_0 0 rfl) rfl 0 rfl ?_
  refine k_iload_n C (dk dX8_isDone_0 1 rfl) rfl 1 rfl ?_
  refine cl2_k h (fun x2 s1 hc h => ?_)
  refine k_cv (T := TX5) (N := 6) (ci := 3) (ob := o0) (As := [.int a1]) (st := []) C (qX5_numberAt l g hg ho0 hc) (iW4 _ (List.mem_of_getElem? (i := 20) rfl)) (iW4 _ (List.mem_of_getElem? (i := 21) rfl)) (iW4 _ (List.mem_of_getElem? (i := 22) rfl)) (iW1 _ (List.mem_of_getElem? (i := 3) rfl)) (iW4 _ (List.mem_of_getElem? (i := 23) rfl)) rfl rfl hdX5_numberAt (by decide) ho0 (by decide) rfl rfl rfl (Nat.le_of_ble_eq_true rfl) (dk dX8_isDone_0 2 rfl) ?_
  refine k_l2i C (dk dX8_isDone_0 3 rfl) ?_
  by_cases e0 : x2.toInt32 = (100 : Int32)
  · replace h := (if_pos e0).symm.trans h
    refine k_tsIn (q := (100 : Int32)) (tgt := 152) C (dk dX8_isDone_0 4 rfl) (by decide) (by decide) rfl (by decide) e0 ?_
    refine k_aload_n C (dk dX8_isDone_1 9 rfl) rfl 2 rfl ?_
    refine k_aload_n C (dk dX8_isDone_1 10 rfl) rfl 0 rfl ?_
    refine k_iload_n C (dk dX8_isDone_1 11 rfl) rfl 1 rfl ?_
    refine k_iconst (v := (1 : Int32)) C (dk dX8_isDone_1 12 rfl) (by decide) ?_
    refine k_iadd C (dk dX8_isDone_1 13 rfl) ?_
    refine cl2_k h (fun x4 s3 hc h => ?_)
    refine k_cs (As := [.ref (g.2.2 o0), .int (a1 + (1 : Int32))]) (st := [.ref (g.2.2 o2)]) C (qX8_digitAt l g hg ho0 hc) (iW5 _ (List.mem_of_getElem? (i := 10) rfl)) (iW5 _ (List.mem_of_getElem? (i := 11) rfl)) (iW4 _ (List.mem_of_getElem? (i := 14) rfl)) (iW5 _ (List.mem_of_getElem? (i := 12) rfl)) rfl rfl hdX8_digitAt (by decide) rfl rfl (Nat.le_of_ble_eq_true rfl) (dk dX8_isDone_1 14 rfl) ?_
    refine k_aload_n C (dk dX8_isDone_1 15 rfl) rfl 0 rfl ?_
    refine k_iload_n C (dk dX8_isDone_1 16 rfl) rfl 1 rfl ?_
    refine k_iconst (v := (2 : Int32)) C (dk dX8_isDone_1 17 rfl) (by decide) ?_
    refine k_iadd C (dk dX8_isDone_1 18 rfl) ?_
    refine cl2_k h (fun x6 s5 hc h => ?_)
    refine k_cs (As := [.ref (g.2.2 o0), .int (a1 + (2 : Int32))]) (st := [.int x4, .ref (g.2.2 o2)]) C (qX8_digitAt l g hg ho0 hc) (iW5 _ (List.mem_of_getElem? (i := 10) rfl)) (iW5 _ (List.mem_of_getElem? (i := 11) rfl)) (iW4 _ (List.mem_of_getElem? (i := 14) rfl)) (iW5 _ (List.mem_of_getElem? (i := 12) rfl)) rfl rfl hdX8_digitAt (by decide) rfl rfl (Nat.le_of_ble_eq_true rfl) (dk dX8_isDone_1 19 rfl) ?_
    refine cl2_k h (fun x8 s7 hc h => ?_)
    refine k_cv (T := TX3) (N := 10) (ci := 1) (ob := o2) (As := [.int x4, .int x6]) (st := []) C (qX3_goDay l g hg ho2 hc) (iW6 _ (List.mem_of_getElem? (i := 24) rfl)) (iW6 _ (List.mem_of_getElem? (i := 25) rfl)) (iW6 _ (List.mem_of_getElem? (i := 26) rfl)) (iW0 _ (List.mem_of_getElem? (i := 15) rfl)) (iW6 _ (List.mem_of_getElem? (i := 27) rfl)) rfl rfl hdX3_goDay (by decide) ho2 (by decide) rfl rfl rfl (Nat.le_of_ble_eq_true rfl) (dk dX8_isDone_1 20 rfl) ?_
    exact k_zret E (dk dX8_isDone_1 21 rfl) h
  replace h := (if_neg e0).symm.trans h
  by_cases e3 : x2.toInt32 = (103 : Int32)
  · replace h := (if_pos e3).symm.trans h
    refine k_tsIn (q := (103 : Int32)) (tgt := 100) C (dk dX8_isDone_0 4 rfl) (by decide) (by decide) rfl (by decide) e3 ?_
    refine k_aload_n C (dk dX8_isDone_0 5 rfl) rfl 0 rfl ?_
    refine k_iload_n C (dk dX8_isDone_0 6 rfl) rfl 1 rfl ?_
    refine k_aload_n C (dk dX8_isDone_0 7 rfl) rfl 2 rfl ?_
    refine cl2_k h (fun x10 s9 hc h => ?_)
    refine k_cs (As := [.ref (g.2.2 o0), .int a1, .ref (g.2.2 o2)]) (st := []) C (qX8_isLaid l g hg ho0 ho2 hc) (iW5 _ (List.mem_of_getElem? (i := 7) rfl)) (iW5 _ (List.mem_of_getElem? (i := 8) rfl)) (iW4 _ (List.mem_of_getElem? (i := 14) rfl)) (iW5 _ (List.mem_of_getElem? (i := 9) rfl)) rfl rfl hdX8_isLaid (by decide) rfl rfl (Nat.le_of_ble_eq_true rfl) (dk dX8_isDone_0 8 rfl) ?_
    exact k_zret E (dk dX8_isDone_0 9 rfl) h
  replace h := (if_neg e3).symm.trans h
  by_cases e4 : x2.toInt32 = (104 : Int32)
  · replace h := (if_pos e4).symm.trans h
    refine k_tsIn (q := (104 : Int32)) (tgt := 107) C (dk dX8_isDone_0 4 rfl) (by decide) (by decide) rfl (by decide) e4 ?_
    refine k_iconst (v := (0 : Int32)) C (dk dX8_isDone_0 10 rfl) (by decide) ?_
    refine k_aload_n C (dk dX8_isDone_0 11 rfl) rfl 0 rfl ?_
    refine k_iload_n C (dk dX8_isDone_0 12 rfl) rfl 1 rfl ?_
    refine k_iconst (v := (1 : Int32)) C (dk dX8_isDone_0 13 rfl) (by decide) ?_
    refine k_iadd C (dk dX8_isDone_0 14 rfl) ?_
    refine cl2_k h (fun x12 s11 hc h => ?_)
    refine k_cs (As := [.ref (g.2.2 o0), .int (a1 + (1 : Int32))]) (st := [.int (0 : Int32)]) C (qX8_twoDigitsAt l g hg ho0 hc) (iW5 _ (List.mem_of_getElem? (i := 13) rfl)) (iW5 _ (List.mem_of_getElem? (i := 14) rfl)) (iW4 _ (List.mem_of_getElem? (i := 14) rfl)) (iW5 _ (List.mem_of_getElem? (i := 15) rfl)) rfl rfl hdX8_twoDigitsAt (by decide) rfl rfl (Nat.le_of_ble_eq_true rfl) (dk dX8_isDone_0 15 rfl) ?_
    refine k_aload_n C (dk dX8_isDone_0 16 rfl) rfl 2 rfl ?_
    refine cl2_k h (fun x14 s13 hc h => ?_)
    refine k_cs (As := [.int (0 : Int32), .int x12, .ref (g.2.2 o2)]) (st := []) C (qX8_isPlaced l g hg ho2 hc) (iW5 _ (List.mem_of_getElem? (i := 27) rfl)) (iW5 _ (List.mem_of_getElem? (i := 28) rfl)) (iW4 _ (List.mem_of_getElem? (i := 14) rfl)) (iW5 _ (List.mem_of_getElem? (i := 29) rfl)) rfl rfl hdX8_isPlaced (by decide) rfl rfl (Nat.le_of_ble_eq_true rfl) (dk dX8_isDone_0 17 rfl) ?_
    exact k_zret E (dk dX8_isDone_0 18 rfl) h
  replace h := (if_neg e4).symm.trans h
  by_cases e10 : x2.toInt32 = (110 : Int32)
  · replace h := (if_pos e10).symm.trans h
    refine k_tsIn (q := (110 : Int32)) (tgt := 133) C (dk dX8_isDone_0 4 rfl) (by decide) (by decide) rfl (by decide) e10 ?_
    refine k_aload_n C (dk dX8_isDone_0 28 rfl) rfl 0 rfl ?_
    refine k_iload_n C (dk dX8_isDone_0 29 rfl) rfl 1 rfl ?_
    refine k_aload_n C (dk dX8_isDone_0 30 rfl) rfl 2 rfl ?_
    refine cl2_k h (fun x16 s15 hc h => ?_)
    refine k_cs (As := [.ref (g.2.2 o0), .int a1, .ref (g.2.2 o2)]) (st := []) C (qX8_isBound l g hg ho0 ho2 hc) (iW6 _ (List.mem_of_getElem? (i := 11) rfl)) (iW6 _ (List.mem_of_getElem? (i := 12) rfl)) (iW4 _ (List.mem_of_getElem? (i := 14) rfl)) (iW6 _ (List.mem_of_getElem? (i := 13) rfl)) rfl rfl hdX8_isBound (by decide) rfl rfl (Nat.le_of_ble_eq_true rfl) (dk dX8_isDone_0 31 rfl) ?_
    exact k_zret E (dk dX8_isDone_1 0 rfl) h
  replace h := (if_neg e10).symm.trans h
  by_cases e15 : x2.toInt32 = (115 : Int32)
  · replace h := (if_pos e15).symm.trans h
    refine k_tsIn (q := (115 : Int32)) (tgt := 120) C (dk dX8_isDone_0 4 rfl) (by decide) (by decide) rfl (by decide) e15 ?_
    refine k_iconst (v := (1 : Int32)) C (dk dX8_isDone_0 19 rfl) (by decide) ?_
    refine k_aload_n C (dk dX8_isDone_0 20 rfl) rfl 0 rfl ?_
    refine k_iload_n C (dk dX8_isDone_0 21 rfl) rfl 1 rfl ?_
    refine k_iconst (v := (1 : Int32)) C (dk dX8_isDone_0 22 rfl) (by decide) ?_
    refine k_iadd C (dk dX8_isDone_0 23 rfl) ?_
    refine cl2_k h (fun x18 s17 hc h => ?_)
    refine k_cs (As := [.ref (g.2.2 o0), .int (a1 + (1 : Int32))]) (st := [.int (1 : Int32)]) C (qX8_twoDigitsAt l g hg ho0 hc) (iW5 _ (List.mem_of_getElem? (i := 13) rfl)) (iW5 _ (List.mem_of_getElem? (i := 14) rfl)) (iW4 _ (List.mem_of_getElem? (i := 14) rfl)) (iW5 _ (List.mem_of_getElem? (i := 15) rfl)) rfl rfl hdX8_twoDigitsAt (by decide) rfl rfl (Nat.le_of_ble_eq_true rfl) (dk dX8_isDone_0 24 rfl) ?_
    refine k_aload_n C (dk dX8_isDone_0 25 rfl) rfl 2 rfl ?_
    refine cl2_k h (fun x20 s19 hc h => ?_)
    refine k_cs (As := [.int (1 : Int32), .int x18, .ref (g.2.2 o2)]) (st := []) C (qX8_isPlaced l g hg ho2 hc) (iW5 _ (List.mem_of_getElem? (i := 27) rfl)) (iW5 _ (List.mem_of_getElem? (i := 28) rfl)) (iW4 _ (List.mem_of_getElem? (i := 14) rfl)) (iW5 _ (List.mem_of_getElem? (i := 29) rfl)) rfl rfl hdX8_isPlaced (by decide) rfl rfl (Nat.le_of_ble_eq_true rfl) (dk dX8_isDone_0 26 rfl) ?_
    exact k_zret E (dk dX8_isDone_0 27 rfl) h
  replace h := (if_neg e15).symm.trans h
  by_cases e19 : x2.toInt32 = (119 : Int32)
  · replace h := (if_pos e19).symm.trans h
    refine k_tsIn (q := (119 : Int32)) (tgt := 140) C (dk dX8_isDone_0 4 rfl) (by decide) (by decide) rfl (by decide) e19 ?_
    refine k_aload_n C (dk dX8_isDone_1 1 rfl) rfl 0 rfl ?_
    refine k_iload_n C (dk dX8_isDone_1 2 rfl) rfl 1 rfl ?_
    refine k_iconst (v := (1 : Int32)) C (dk dX8_isDone_1 3 rfl) (by decide) ?_
    refine k_iadd C (dk dX8_isDone_1 4 rfl) ?_
    refine cl2_k h (fun x22 s21 hc h => ?_)
    refine k_cs (As := [.ref (g.2.2 o0), .int (a1 + (1 : Int32))]) (st := []) C (qX8_digitAt l g hg ho0 hc) (iW5 _ (List.mem_of_getElem? (i := 10) rfl)) (iW5 _ (List.mem_of_getElem? (i := 11) rfl)) (iW4 _ (List.mem_of_getElem? (i := 14) rfl)) (iW5 _ (List.mem_of_getElem? (i := 12) rfl)) rfl rfl hdX8_digitAt (by decide) rfl rfl (Nat.le_of_ble_eq_true rfl) (dk dX8_isDone_1 5 rfl) ?_
    refine k_aload_n C (dk dX8_isDone_1 6 rfl) rfl 2 rfl ?_
    refine cl2_k h (fun x24 s23 hc h => ?_)
    refine k_cs (As := [.int x22, .ref (g.2.2 o2)]) (st := []) C (qX8_isWintered l g hg ho2 hc) (iW6 _ (List.mem_of_getElem? (i := 18) rfl)) (iW6 _ (List.mem_of_getElem? (i := 19) rfl)) (iW4 _ (List.mem_of_getElem? (i := 14) rfl)) (iW6 _ (List.mem_of_getElem? (i := 20) rfl)) rfl rfl hdX8_isWintered (by decide) rfl rfl (Nat.le_of_ble_eq_true rfl) (dk dX8_isDone_1 7 rfl) ?_
    exact k_zret E (dk dX8_isDone_1 8 rfl) h
  replace h := (if_neg e19).symm.trans h
  by_cases f101 : x2.toInt32 = (101 : Int32)
  · refine k_tsIn (q := (101 : Int32)) (tgt := 171) C (dk dX8_isDone_0 4 rfl) (by decide) (by decide) rfl (by decide) f101 ?_
    refine k_iconst (v := (0 : Int32)) C (dk dX8_isDone_1 22 rfl) (by decide) ?_
    exact k_zret E (dk dX8_isDone_1 23 rfl) h
  by_cases f102 : x2.toInt32 = (102 : Int32)
  · refine k_tsIn (q := (102 : Int32)) (tgt := 171) C (dk dX8_isDone_0 4 rfl) (by decide) (by decide) rfl (by decide) f102 ?_
    refine k_iconst (v := (0 : Int32)) C (dk dX8_isDone_1 22 rfl) (by decide) ?_
    exact k_zret E (dk dX8_isDone_1 23 rfl) h
  by_cases f105 : x2.toInt32 = (105 : Int32)
  · refine k_tsIn (q := (105 : Int32)) (tgt := 171) C (dk dX8_isDone_0 4 rfl) (by decide) (by decide) rfl (by decide) f105 ?_
    refine k_iconst (v := (0 : Int32)) C (dk dX8_isDone_1 22 rfl) (by decide) ?_
    exact k_zret E (dk dX8_isDone_1 23 rfl) h
  by_cases f106 : x2.toInt32 = (106 : Int32)
  · refine k_tsIn (q := (106 : Int32)) (tgt := 171) C (dk dX8_isDone_0 4 rfl) (by decide) (by decide) rfl (by decide) f106 ?_
    refine k_iconst (v := (0 : Int32)) C (dk dX8_isDone_1 22 rfl) (by decide) ?_
    exact k_zret E (dk dX8_isDone_1 23 rfl) h
  by_cases f107 : x2.toInt32 = (107 : Int32)
  · refine k_tsIn (q := (107 : Int32)) (tgt := 171) C (dk dX8_isDone_0 4 rfl) (by decide) (by decide) rfl (by decide) f107 ?_
    refine k_iconst (v := (0 : Int32)) C (dk dX8_isDone_1 22 rfl) (by decide) ?_
    exact k_zret E (dk dX8_isDone_1 23 rfl) h
  by_cases f108 : x2.toInt32 = (108 : Int32)
  · refine k_tsIn (q := (108 : Int32)) (tgt := 171) C (dk dX8_isDone_0 4 rfl) (by decide) (by decide) rfl (by decide) f108 ?_
    refine k_iconst (v := (0 : Int32)) C (dk dX8_isDone_1 22 rfl) (by decide) ?_
    exact k_zret E (dk dX8_isDone_1 23 rfl) h
  by_cases f109 : x2.toInt32 = (109 : Int32)
  · refine k_tsIn (q := (109 : Int32)) (tgt := 171) C (dk dX8_isDone_0 4 rfl) (by decide) (by decide) rfl (by decide) f109 ?_
    refine k_iconst (v := (0 : Int32)) C (dk dX8_isDone_1 22 rfl) (by decide) ?_
    exact k_zret E (dk dX8_isDone_1 23 rfl) h
  by_cases f111 : x2.toInt32 = (111 : Int32)
  · refine k_tsIn (q := (111 : Int32)) (tgt := 171) C (dk dX8_isDone_0 4 rfl) (by decide) (by decide) rfl (by decide) f111 ?_
    refine k_iconst (v := (0 : Int32)) C (dk dX8_isDone_1 22 rfl) (by decide) ?_
    exact k_zret E (dk dX8_isDone_1 23 rfl) h
  by_cases f112 : x2.toInt32 = (112 : Int32)
  · refine k_tsIn (q := (112 : Int32)) (tgt := 171) C (dk dX8_isDone_0 4 rfl) (by decide) (by decide) rfl (by decide) f112 ?_
    refine k_iconst (v := (0 : Int32)) C (dk dX8_isDone_1 22 rfl) (by decide) ?_
    exact k_zret E (dk dX8_isDone_1 23 rfl) h
  by_cases f113 : x2.toInt32 = (113 : Int32)
  · refine k_tsIn (q := (113 : Int32)) (tgt := 171) C (dk dX8_isDone_0 4 rfl) (by decide) (by decide) rfl (by decide) f113 ?_
    refine k_iconst (v := (0 : Int32)) C (dk dX8_isDone_1 22 rfl) (by decide) ?_
    exact k_zret E (dk dX8_isDone_1 23 rfl) h
  by_cases f114 : x2.toInt32 = (114 : Int32)
  · refine k_tsIn (q := (114 : Int32)) (tgt := 171) C (dk dX8_isDone_0 4 rfl) (by decide) (by decide) rfl (by decide) f114 ?_
    refine k_iconst (v := (0 : Int32)) C (dk dX8_isDone_1 22 rfl) (by decide) ?_
    exact k_zret E (dk dX8_isDone_1 23 rfl) h
  by_cases f116 : x2.toInt32 = (116 : Int32)
  · refine k_tsIn (q := (116 : Int32)) (tgt := 171) C (dk dX8_isDone_0 4 rfl) (by decide) (by decide) rfl (by decide) f116 ?_
    refine k_iconst (v := (0 : Int32)) C (dk dX8_isDone_1 22 rfl) (by decide) ?_
    exact k_zret E (dk dX8_isDone_1 23 rfl) h
  by_cases f117 : x2.toInt32 = (117 : Int32)
  · refine k_tsIn (q := (117 : Int32)) (tgt := 171) C (dk dX8_isDone_0 4 rfl) (by decide) (by decide) rfl (by decide) f117 ?_
    refine k_iconst (v := (0 : Int32)) C (dk dX8_isDone_1 22 rfl) (by decide) ?_
    exact k_zret E (dk dX8_isDone_1 23 rfl) h
  by_cases f118 : x2.toInt32 = (118 : Int32)
  · refine k_tsIn (q := (118 : Int32)) (tgt := 171) C (dk dX8_isDone_0 4 rfl) (by decide) (by decide) rfl (by decide) f118 ?_
    refine k_iconst (v := (0 : Int32)) C (dk dX8_isDone_1 22 rfl) (by decide) ?_
    exact k_zret E (dk dX8_isDone_1 23 rfl) h
  refine k_tsOut (tgt := 171) C (dk dX8_isDone_0 4 rfl) (by have n0 : x2.toInt32.toInt ≠ 100 := fun q => e0 (Int32.toInt_inj.mp (q.trans (by decide))); have n1 : x2.toInt32.toInt ≠ 101 := fun q => f101 (Int32.toInt_inj.mp (q.trans (by decide))); have n2 : x2.toInt32.toInt ≠ 102 := fun q => f102 (Int32.toInt_inj.mp (q.trans (by decide))); have n3 : x2.toInt32.toInt ≠ 103 := fun q => e3 (Int32.toInt_inj.mp (q.trans (by decide))); have n4 : x2.toInt32.toInt ≠ 104 := fun q => e4 (Int32.toInt_inj.mp (q.trans (by decide))); have n5 : x2.toInt32.toInt ≠ 105 := fun q => f105 (Int32.toInt_inj.mp (q.trans (by decide))); have n6 : x2.toInt32.toInt ≠ 106 := fun q => f106 (Int32.toInt_inj.mp (q.trans (by decide))); have n7 : x2.toInt32.toInt ≠ 107 := fun q => f107 (Int32.toInt_inj.mp (q.trans (by decide))); have n8 : x2.toInt32.toInt ≠ 108 := fun q => f108 (Int32.toInt_inj.mp (q.trans (by decide))); have n9 : x2.toInt32.toInt ≠ 109 := fun q => f109 (Int32.toInt_inj.mp (q.trans (by decide))); have n10 : x2.toInt32.toInt ≠ 110 := fun q => e10 (Int32.toInt_inj.mp (q.trans (by decide))); have n11 : x2.toInt32.toInt ≠ 111 := fun q => f111 (Int32.toInt_inj.mp (q.trans (by decide))); have n12 : x2.toInt32.toInt ≠ 112 := fun q => f112 (Int32.toInt_inj.mp (q.trans (by decide))); have n13 : x2.toInt32.toInt ≠ 113 := fun q => f113 (Int32.toInt_inj.mp (q.trans (by decide))); have n14 : x2.toInt32.toInt ≠ 114 := fun q => f114 (Int32.toInt_inj.mp (q.trans (by decide))); have n15 : x2.toInt32.toInt ≠ 115 := fun q => e15 (Int32.toInt_inj.mp (q.trans (by decide))); have n16 : x2.toInt32.toInt ≠ 116 := fun q => f116 (Int32.toInt_inj.mp (q.trans (by decide))); have n17 : x2.toInt32.toInt ≠ 117 := fun q => f117 (Int32.toInt_inj.mp (q.trans (by decide))); have n18 : x2.toInt32.toInt ≠ 118 := fun q => f118 (Int32.toInt_inj.mp (q.trans (by decide))); have n19 : x2.toInt32.toInt ≠ 119 := fun q => e19 (Int32.toInt_inj.mp (q.trans (by decide))); omega) (by decide) ?_
  refine k_iconst (v := (0 : Int32)) C (dk dX8_isDone_1 22 rfl) (by decide) ?_
  exact k_zret E (dk dX8_isDone_1 23 rfl) h
set_option maxRecDepth 100000 in
set_option maxHeartbeats 4000000 in
theorem qX8_firstNotDone (l : Launch) (g : G) (hg : gOK g) {o0 : Nat} {o1 : Nat} (ho0 : kd o0 = 3) (ho1 : kd o1 = 1) {s0 σe : St} {v : Int32} (h : mX8_firstNotDone o0 o1 s0 = some (v, σe)) : Mc l g yX8_firstNotDone cX8_firstNotDone 4 (some .int) { frames := 6, cells := 0, slots := 0, locals := 136 } [.ref (g.2.2 o0), .ref (g.2.2 o1)] s0 (some (.int v)) σe := by
  refine k_enter hg pnRX8 rfl (Nat.le_of_ble_eq_true rfl) ?_
  intro WK E
  have C := kX_y E
  unfold mX8_firstNotDone at h
  show WK 0 [(0, .ref (g.2.2 o0)), (1, .ref (g.2.2 o1))] [] s0
  refine k_iconst (v := (0 : Int32)) C (dk dX8_firstNotDone_0 0 rfl) (by decide) ?_
  refine k_istore_n (lv' := [(2, .int (0 : Int32)), (0, .ref (g.2.2 o0)), (1, .ref (g.2.2 o1))]) C (dk dX8_firstNotDone_0 1 rfl) rfl (by decide) rfl ?_
  refine kl_L (P := (fun J2 => ∀ (y1 : Int32) (s2 : St), J2 y1 s2 = some (v, σe) → WK 2 [(0, .ref (g.2.2 o0)), (1, .ref (g.2.2 o1)), (2, .int y1)] [] s2)) h (fun _ _ h => nomatch h) (fun J2 hJ2 y1 s2 h => ?_) (fun J2 hJ2 h => ?_)
  ·
    unfold mX8_firstNotDone_2 at h
    refine k_iload_n C (dk dX8_firstNotDone_0 2 rfl) rfl 2 rfl ?_
    refine k_aload_n C (dk dX8_firstNotDone_0 3 rfl) rfl 0 rfl ?_
    refine k_getI (D := RX5) (T := TX5) (N := 6) (ci := 3) (k := 4) C iCX5 ho0 (by decide) rfl (by decide) (iW4 _ (List.mem_of_getElem? (i := 16) rfl)) rfl (dk dX8_firstNotDone_0 4 rfl) h (fun x3 h => ?_)
    refine k_icmp_ge (tgt := 55) C (dk dX8_firstNotDone_0 5 rfl) (by decide) h (fun h => ?_) (fun h => ?_)
    ·
      refine k_bipush (v := (-4 : Int32)) C (dk dX8_firstNotDone_0 31 rfl) (by decide) ?_
      exact k_iret E (dk dX8_firstNotDone_1 0 rfl) h
    ·
      refine k_iload_n C (dk dX8_firstNotDone_0 6 rfl) rfl 2 rfl ?_
      refine kl_J (P := (fun J33 => ∀ (y4 : Int32) (s5 : St), J33 y4 s5 = some (v, σe) → WK 33 [(0, .ref (g.2.2 o0)), (1, .ref (g.2.2 o1)), (2, .int y1)] [.int y4] s5)) h (fun y4 s5 h => ?_) (fun J33 hJ33 h => ?_)
      ·
        unfold mX8_firstNotDone_33 at h
        refine k_istore_n (lv' := [(3, .int y4), (0, .ref (g.2.2 o0)), (1, .ref (g.2.2 o1)), (2, .int y1)]) C (dk dX8_firstNotDone_0 19 rfl) rfl (by decide) rfl ?_
        refine k_iload_n C (dk dX8_firstNotDone_0 20 rfl) rfl 0 rfl ?_
        refine kl_J (P := (fun J49 => ∀ (y6 : Int32) (s7 : St), J49 y6 s7 = some (v, σe) → WK 49 [(0, .ref (g.2.2 o0)), (1, .ref (g.2.2 o1)), (2, .int y6)] [] s7)) h (fun y6 s7 h => ?_) (fun J49 hJ49 h => ?_)
        ·
          unfold mX8_firstNotDone_49 at h
          refine k_iinc (lv' := [(2, .int (y6 + 1)), (0, .ref (g.2.2 o0)), (1, .ref (g.2.2 o1))]) C (dk dX8_firstNotDone_0 29 rfl) (j := 2) rfl rfl (by decide) rfl ?_
          refine k_goto (tgt := 2) C (dk dX8_firstNotDone_0 30 rfl) (by decide) ?_
          refine k_sub C [1, 2, 0] rfl ?_
          exact hJ2 _ _ h
        ·
          refine k_if_eq (tgt := 49) C (dk dX8_firstNotDone_0 21 rfl) (by decide) h (fun h => ?_) (fun h => ?_)
          ·
            refine k_sub C [1, 2, 3] rfl ?_
            exact hJ49 _ _ h
          ·
            refine k_aload_n C (dk dX8_firstNotDone_0 22 rfl) rfl 1 rfl ?_
            refine k_iload_n C (dk dX8_firstNotDone_0 23 rfl) rfl 3 rfl ?_
            refine k_aload_n C (dk dX8_firstNotDone_0 24 rfl) rfl 2 rfl ?_
            refine cl2_k h (fun x9 s8 hc h => ?_)
            refine k_cs (As := [.ref (g.2.2 o0), .int y1, .ref (g.2.2 o1)]) (st := []) C (qX8_isDone l g hg ho0 ho1 hc) (iW5 _ (List.mem_of_getElem? (i := 4) rfl)) (iW5 _ (List.mem_of_getElem? (i := 5) rfl)) (iW4 _ (List.mem_of_getElem? (i := 14) rfl)) (iW5 _ (List.mem_of_getElem? (i := 6) rfl)) rfl rfl hdX8_isDone (by decide) rfl rfl (Nat.le_of_ble_eq_true rfl) (dk dX8_firstNotDone_0 25 rfl) ?_
            refine k_if_ne (tgt := 49) C (dk dX8_firstNotDone_0 26 rfl) (by decide) h (fun h => ?_) (fun h => ?_)
            ·
              refine k_sub C [1, 2, 3] rfl ?_
              exact hJ49 _ _ h
            ·
              refine k_iload_n C (dk dX8_firstNotDone_0 27 rfl) rfl 3 rfl ?_
              exact k_iret E (dk dX8_firstNotDone_0 28 rfl) h
      ·
        refine kl_J (P := (fun J28 => ∀ (s10 : St), J28 s10 = some (v, σe) → WK 28 [(0, .ref (g.2.2 o0)), (1, .ref (g.2.2 o1)), (2, .int y1)] [] s10)) h (fun s10 h => ?_) (fun J28 hJ28 h => ?_)
        ·
          unfold mX8_firstNotDone_28 at h
          refine k_iconst (v := (1 : Int32)) C (dk dX8_firstNotDone_0 16 rfl) (by decide) ?_
          refine k_goto (tgt := 33) C (dk dX8_firstNotDone_0 17 rfl) (by decide) ?_
          exact hJ33 _ _ h
        ·
          refine k_if_eq (tgt := 28) C (dk dX8_firstNotDone_0 7 rfl) (by decide) h (fun h => ?_) (fun h => ?_)
          ·
            exact hJ28 _ h
          ·
            refine k_aload_n C (dk dX8_firstNotDone_0 8 rfl) rfl 0 rfl ?_
            refine k_iload_n C (dk dX8_firstNotDone_0 9 rfl) rfl 2 rfl ?_
            refine k_iconst (v := (1 : Int32)) C (dk dX8_firstNotDone_0 10 rfl) (by decide) ?_
            refine k_isub C (dk dX8_firstNotDone_0 11 rfl) ?_
            refine cl2_k h (fun x12 s11 hc h => ?_)
            refine k_cv (T := TX5) (N := 6) (ci := 3) (ob := o0) (As := [.int (y1 - (1 : Int32))]) (st := []) C (qX5_numberAt l g hg ho0 hc) (iW4 _ (List.mem_of_getElem? (i := 20) rfl)) (iW4 _ (List.mem_of_getElem? (i := 21) rfl)) (iW4 _ (List.mem_of_getElem? (i := 22) rfl)) (iW1 _ (List.mem_of_getElem? (i := 3) rfl)) (iW4 _ (List.mem_of_getElem? (i := 23) rfl)) rfl rfl hdX5_numberAt (by decide) ho0 (by decide) rfl rfl rfl (Nat.le_of_ble_eq_true rfl) (dk dX8_firstNotDone_0 12 rfl) ?_
            refine k_ldc2 (v := (59 : Int64)) C (dk dX8_firstNotDone_0 13 rfl) (iW4 _ (List.mem_of_getElem? (i := 17) rfl)) ?_
            refine k_lcmp C (dk dX8_firstNotDone_0 14 rfl) ?_
            refine k_if_ne (tgt := 32) C (dk dX8_firstNotDone_0 15 rfl) (by decide) h (fun h => ?_) (fun h => ?_)
            ·
              refine k_iconst (v := (0 : Int32)) C (dk dX8_firstNotDone_0 18 rfl) (by decide) ?_
              exact hJ33 _ _ h
            ·
              exact hJ28 _ h
  ·
    refine k_sub C [1, 2, 0] rfl ?_
    exact hJ2 _ _ h
set_option maxRecDepth 100000 in
set_option maxHeartbeats 4000000 in
theorem qX9_isOfCells (l : Launch) (g : G) (hg : gOK g) {o0 : Nat} (ho0 : kd o0 = 3) {s0 σe : St} {v : Int32} (h : mX9_isOfCells o0 s0 = some (v, σe)) : Mc l g yX9_isOfCells cX9_isOfCells 2 (some .boolean) { frames := 1, cells := 0, slots := 0, locals := 21 } [.ref (g.2.2 o0)] s0 (some (.int v)) σe := by
  refine k_enter hg pnRX9 rfl (Nat.le_of_ble_eq_true rfl) ?_
  intro WK E
  have C := kX_y E
  unfold mX9_isOfCells at h
  show WK 0 [(0, .ref (g.2.2 o0))] [] s0
  refine k_iconst (v := (0 : Int32)) C (dk dX9_isOfCells_0 0 rfl) (by decide) ?_
  refine k_istore_n (lv' := [(1, .int (0 : Int32)), (0, .ref (g.2.2 o0))]) C (dk dX9_isOfCells_0 1 rfl) rfl (by decide) rfl ?_
  refine kl_L (P := (fun J2 => ∀ (y1 : Int32) (s2 : St), J2 y1 s2 = some (v, σe) → WK 2 [(0, .ref (g.2.2 o0)), (1, .int y1)] [] s2)) h (fun _ _ h => nomatch h) (fun J2 hJ2 y1 s2 h => ?_) (fun J2 hJ2 h => ?_)
  ·
    unfold mX9_isOfCells_2 at h
    refine k_iload_n C (dk dX9_isOfCells_0 2 rfl) rfl 1 rfl ?_
    refine k_aload_n C (dk dX9_isOfCells_0 3 rfl) rfl 0 rfl ?_
    refine k_getI (D := RX5) (T := TX5) (N := 6) (ci := 3) (k := 4) C iCX5 ho0 (by decide) rfl (by decide) (iW26 _ (List.mem_of_getElem? (i := 1) rfl)) rfl (dk dX9_isOfCells_0 4 rfl) h (fun x3 h => ?_)
    refine k_icmp_ge (tgt := 29) C (dk dX9_isOfCells_0 5 rfl) (by decide) h (fun h => ?_) (fun h => ?_)
    ·
      refine k_aload_n C (dk dX9_isOfCells_0 15 rfl) rfl 0 rfl ?_
      refine k_getI (D := RX5) (T := TX5) (N := 6) (ci := 3) (k := 4) C iCX5 ho0 (by decide) rfl (by decide) (iW26 _ (List.mem_of_getElem? (i := 1) rfl)) rfl (dk dX9_isOfCells_0 16 rfl) h (fun x4 h => ?_)
      refine k_if_le (tgt := 40) C (dk dX9_isOfCells_0 17 rfl) (by decide) h (fun h => ?_) (fun h => ?_)
      ·
        refine k_iconst (v := (0 : Int32)) C (dk dX9_isOfCells_0 20 rfl) (by decide) ?_
        exact k_zret E (dk dX9_isOfCells_0 21 rfl) h
      ·
        refine k_iconst (v := (1 : Int32)) C (dk dX9_isOfCells_0 18 rfl) (by decide) ?_
        refine k_goto (tgt := 41) C (dk dX9_isOfCells_0 19 rfl) (by decide) ?_
        exact k_zret E (dk dX9_isOfCells_0 21 rfl) h
    ·
      refine k_aload_n C (dk dX9_isOfCells_0 6 rfl) rfl 0 rfl ?_
      refine k_iload_n C (dk dX9_isOfCells_0 7 rfl) rfl 1 rfl ?_
      refine cl2_k h (fun x6 s5 hc h => ?_)
      refine k_cv (T := TX5) (N := 6) (ci := 3) (ob := o0) (As := [.int y1]) (st := []) C (qX5_numberAt l g hg ho0 hc) (iW26 _ (List.mem_of_getElem? (i := 2) rfl)) (iW4 _ (List.mem_of_getElem? (i := 21) rfl)) (iW4 _ (List.mem_of_getElem? (i := 22) rfl)) (iW1 _ (List.mem_of_getElem? (i := 3) rfl)) (iW4 _ (List.mem_of_getElem? (i := 23) rfl)) rfl rfl hdX5_numberAt (by decide) ho0 (by decide) rfl rfl rfl (Nat.le_of_ble_eq_true rfl) (dk dX9_isOfCells_0 8 rfl) ?_
      refine cl2_k h (fun x8 s7 hc h => ?_)
      refine k_cn (As := [.long x6]) (st := []) C (qX10_isCell l g hg hc) (iW5 _ (List.mem_of_getElem? (i := 21) rfl)) rfl rfl (List.mem_of_getElem? (i := 6) rfl) (iW5 _ (List.mem_of_getElem? (i := 20) rfl)) (iW0 _ (List.mem_of_getElem? (i := 2) rfl)) hdX10_isCell (by decide) rfl rfl (Nat.le_of_ble_eq_true rfl) (dk dX9_isOfCells_0 9 rfl) ?_
      refine k_if_ne (tgt := 23) C (dk dX9_isOfCells_0 10 rfl) (by decide) h (fun h => ?_) (fun h => ?_)
      ·
        refine k_iinc (lv' := [(1, .int (y1 + 1)), (0, .ref (g.2.2 o0))]) C (dk dX9_isOfCells_0 13 rfl) (j := 1) rfl rfl (by decide) rfl ?_
        refine k_goto (tgt := 2) C (dk dX9_isOfCells_0 14 rfl) (by decide) ?_
        refine k_sub C [1, 0] rfl ?_
        exact hJ2 _ _ h
      ·
        refine k_iconst (v := (0 : Int32)) C (dk dX9_isOfCells_0 11 rfl) (by decide) ?_
        exact k_zret E (dk dX9_isOfCells_0 12 rfl) h
  ·
    refine k_sub C [1, 0] rfl ?_
    exact hJ2 _ _ h
set_option maxRecDepth 100000 in
set_option maxHeartbeats 4000000 in
theorem qX9_firstWrongPlace (l : Launch) (g : G) (hg : gOK g) {o0 : Nat} {o1 : Nat} (ho0 : kd o0 = 3) (ho1 : kd o1 = 1) {s0 σe : St} {v : Int32} (h : mX9_firstWrongPlace o0 o1 s0 = some (v, σe)) : Mc l g yX9_firstWrongPlace cX9_firstWrongPlace 11 (some .int) { frames := 3, cells := 0, slots := 0, locals := 66 } [.ref (g.2.2 o0), .ref (g.2.2 o1)] s0 (some (.int v)) σe := by
  refine k_enter hg pnRX9 rfl (Nat.le_of_ble_eq_true rfl) ?_
  intro WK E
  have C := kX_y E
  unfold mX9_firstWrongPlace at h
  show WK 0 [(0, .ref (g.2.2 o0)), (1, .ref (g.2.2 o1))] [] s0
  refine k_aload_n C (dk dX9_firstWrongPlace_0 0 rfl) rfl 1 rfl ?_
  refine cl2_k h (fun x2 s1 hc h => ?_)
  refine k_cv (T := TX3) (N := 10) (ci := 1) (ob := o1) (As := []) (st := []) C (qX3_openCells l g hg ho1 hc) (iW32 _ (List.mem_of_getElem? (i := 16) rfl)) (iW14 _ (List.mem_of_getElem? (i := 11) rfl)) (iW14 _ (List.mem_of_getElem? (i := 12) rfl)) (iW0 _ (List.mem_of_getElem? (i := 15) rfl)) (iW14 _ (List.mem_of_getElem? (i := 13) rfl)) rfl rfl hdX3_openCells (by decide) ho1 (by decide) rfl rfl rfl (Nat.le_of_ble_eq_true rfl) (dk dX9_firstWrongPlace_0 1 rfl) ?_
  refine k_lstore_n (lv' := [(2, .long x2), (0, .ref (g.2.2 o0)), (1, .ref (g.2.2 o1))]) C (dk dX9_firstWrongPlace_0 2 rfl) rfl (by decide) rfl ?_
  refine k_aload_n C (dk dX9_firstWrongPlace_0 3 rfl) rfl 2 rfl ?_
  refine k_getI (D := RX3) (T := TX3) (N := 10) (ci := 1) (k := 5) C iCX3 ho1 (by decide) rfl (by decide) (iW32 _ (List.mem_of_getElem? (i := 15) rfl)) rfl (dk dX9_firstWrongPlace_0 4 rfl) h (fun x3 h => ?_)
  refine cl2_k h (fun x5 s4 hc h => ?_)
  refine k_cs (As := [.int x3]) (st := []) C (qX7_bit l g hg hc) (iW27 _ (List.mem_of_getElem? (i := 9) rfl)) (iW14 _ (List.mem_of_getElem? (i := 15) rfl)) (iW7 _ (List.mem_of_getElem? (i := 4) rfl)) (iW14 _ (List.mem_of_getElem? (i := 16) rfl)) rfl rfl hdX7_bit (by decide) rfl rfl (Nat.le_of_ble_eq_true rfl) (dk dX9_firstWrongPlace_0 5 rfl) ?_
  refine k_lstore (lv' := [(4, .long x5), (2, .long x2), (0, .ref (g.2.2 o0)), (1, .ref (g.2.2 o1))]) C (dk dX9_firstWrongPlace_0 6 rfl) (by decide) rfl ?_
  refine k_iconst (v := (0 : Int32)) C (dk dX9_firstWrongPlace_0 7 rfl) (by decide) ?_
  refine k_istore (lv' := [(6, .int (0 : Int32)), (4, .long x5), (2, .long x2), (0, .ref (g.2.2 o0)), (1, .ref (g.2.2 o1))]) C (dk dX9_firstWrongPlace_0 8 rfl) (by decide) rfl ?_
  refine kl_L (P := (fun J17 => ∀ (y6 : Int64) (y7 : Int32) (s8 : St), J17 y6 y7 s8 = some (v, σe) → WK 17 [(0, .ref (g.2.2 o0)), (2, .long x2), (4, .long y6), (6, .int y7)] [] s8)) h (fun _ _ _ h => nomatch h) (fun J17 hJ17 y6 y7 s8 h => ?_) (fun J17 hJ17 h => ?_)
  ·
    unfold mX9_firstWrongPlace_17 at h
    refine k_iload C (dk dX9_firstWrongPlace_0 9 rfl) 3 rfl ?_
    refine k_aload_n C (dk dX9_firstWrongPlace_0 10 rfl) rfl 0 rfl ?_
    refine k_getI (D := RX5) (T := TX5) (N := 6) (ci := 3) (k := 4) C iCX5 ho0 (by decide) rfl (by decide) (iW26 _ (List.mem_of_getElem? (i := 1) rfl)) rfl (dk dX9_firstWrongPlace_0 11 rfl) h (fun x9 h => ?_)
    refine k_icmp_ge (tgt := 116) C (dk dX9_firstWrongPlace_0 12 rfl) (by decide) h (fun h => ?_) (fun h => ?_)
    ·
      refine k_bipush (v := (-4 : Int32)) C (dk dX9_firstWrongPlace_1 26 rfl) (by decide) ?_
      exact k_iret E (dk dX9_firstWrongPlace_1 27 rfl) h
    ·
      refine k_aload_n C (dk dX9_firstWrongPlace_0 13 rfl) rfl 0 rfl ?_
      refine k_iload C (dk dX9_firstWrongPlace_0 14 rfl) 3 rfl ?_
      refine cl2_k h (fun x11 s10 hc h => ?_)
      refine k_cv (T := TX5) (N := 6) (ci := 3) (ob := o0) (As := [.int y7]) (st := []) C (qX5_numberAt l g hg ho0 hc) (iW26 _ (List.mem_of_getElem? (i := 2) rfl)) (iW4 _ (List.mem_of_getElem? (i := 21) rfl)) (iW4 _ (List.mem_of_getElem? (i := 22) rfl)) (iW1 _ (List.mem_of_getElem? (i := 3) rfl)) (iW4 _ (List.mem_of_getElem? (i := 23) rfl)) rfl rfl hdX5_numberAt (by decide) ho0 (by decide) rfl rfl rfl (Nat.le_of_ble_eq_true rfl) (dk dX9_firstWrongPlace_0 15 rfl) ?_
      refine k_lstore (lv' := [(7, .long x11), (0, .ref (g.2.2 o0)), (2, .long x2), (4, .long y6), (6, .int y7)]) C (dk dX9_firstWrongPlace_0 16 rfl) (by decide) rfl ?_
      refine k_iload C (dk dX9_firstWrongPlace_0 17 rfl) 4 rfl ?_
      refine kl_J (P := (fun J51 => ∀ (y12 : Int64) (s13 : St), J51 y12 s13 = some (v, σe) → WK 51 [(0, .ref (g.2.2 o0)), (2, .long x2), (4, .long y12), (6, .int y7), (7, .long x11)] [] s13)) h (fun y12 s13 h => ?_) (fun J51 hJ51 h => ?_)
      ·
        unfold mX9_firstWrongPlace_51 at h
        refine k_lload C (dk dX9_firstWrongPlace_0 26 rfl) 4 rfl ?_
        refine k_aload_n C (dk dX9_firstWrongPlace_0 27 rfl) rfl 0 rfl ?_
        refine cl2_k h (fun x15 s14 hc h => ?_)
        refine k_cv (T := TX5) (N := 6) (ci := 3) (ob := o0) (As := []) (st := [.long x11]) C (qX5_leastNumber l g hg ho0 hc) (iW32 _ (List.mem_of_getElem? (i := 17) rfl)) (iW32 _ (List.mem_of_getElem? (i := 18) rfl)) (iW32 _ (List.mem_of_getElem? (i := 19) rfl)) (iW1 _ (List.mem_of_getElem? (i := 3) rfl)) (iW32 _ (List.mem_of_getElem? (i := 20) rfl)) rfl rfl hdX5_leastNumber (by decide) ho0 (by decide) rfl rfl rfl (Nat.le_of_ble_eq_true rfl) (dk dX9_firstWrongPlace_0 28 rfl) ?_
        refine k_lcmp C (dk dX9_firstWrongPlace_0 29 rfl) ?_
        refine kl_J (P := (fun J110 => ∀ (y16 : Int64) (y17 : Int32) (s18 : St), J110 y16 y17 s18 = some (v, σe) → WK 110 [(0, .ref (g.2.2 o0)), (2, .long x2), (4, .long y16), (6, .int y17)] [] s18)) h (fun y16 y17 s18 h => ?_) (fun J110 hJ110 h => ?_)
        ·
          unfold mX9_firstWrongPlace_110 at h
          refine k_iinc (lv' := [(6, .int (y17 + 1)), (0, .ref (g.2.2 o0)), (2, .long x2), (4, .long y16)]) C (dk dX9_firstWrongPlace_1 24 rfl) (j := 3) rfl rfl (by decide) rfl ?_
          refine k_goto (tgt := 17) C (dk dX9_firstWrongPlace_1 25 rfl) (by decide) ?_
          refine k_sub C [1, 2, 3, 0] rfl ?_
          exact hJ17 _ _ _ h
        ·
          refine k_if_eq (tgt := 110) C (dk dX9_firstWrongPlace_0 30 rfl) (by decide) h (fun h => ?_) (fun h => ?_)
          ·
            refine k_sub C [0, 1, 2, 3] rfl ?_
            exact hJ110 _ _ _ h
          ·
            refine k_lload C (dk dX9_firstWrongPlace_0 31 rfl) 4 rfl ?_
            refine cl2_k h (fun x20 s19 hc h => ?_)
            refine k_cn (As := [.long x11]) (st := []) C (qX10_isCell l g hg hc) (iW5 _ (List.mem_of_getElem? (i := 21) rfl)) rfl rfl (List.mem_of_getElem? (i := 6) rfl) (iW5 _ (List.mem_of_getElem? (i := 20) rfl)) (iW0 _ (List.mem_of_getElem? (i := 2) rfl)) hdX10_isCell (by decide) rfl rfl (Nat.le_of_ble_eq_true rfl) (dk dX9_firstWrongPlace_1 0 rfl) ?_
            refine kl_J (P := (fun J79 => ∀ (y21 : Int64) (s22 : St), J79 y21 s22 = some (v, σe) → WK 79 [(0, .ref (g.2.2 o0)), (2, .long x2), (4, .long y12), (6, .int y7)] [.long y21] s22)) h (fun y21 s22 h => ?_) (fun J79 hJ79 h => ?_)
            ·
              unfold mX9_firstWrongPlace_79 at h
              refine k_lstore (lv' := [(9, .long y21), (0, .ref (g.2.2 o0)), (2, .long x2), (4, .long y12), (6, .int y7)]) C (dk dX9_firstWrongPlace_1 7 rfl) (by decide) rfl ?_
              refine k_lload C (dk dX9_firstWrongPlace_1 8 rfl) 3 rfl ?_
              refine k_iload C (dk dX9_firstWrongPlace_1 9 rfl) 4 rfl ?_
              refine kl_J (P := (fun J97 => ∀ (y23 : Int64) (s24 : St), J97 y23 s24 = some (v, σe) → WK 97 [(0, .ref (g.2.2 o0)), (2, .long x2), (6, .int y7)] [.long y23, .long y12] s24)) h (fun y23 s24 h => ?_) (fun J97 hJ97 h => ?_)
              ·
                unfold mX9_firstWrongPlace_97 at h
                refine k_land C (dk dX9_firstWrongPlace_1 16 rfl) ?_
                refine nmL h (fun x25 h => ?_)
                refine k_lstore (lv' := [(4, .long x25), (0, .ref (g.2.2 o0)), (2, .long x2), (6, .int y7)]) C (dk dX9_firstWrongPlace_1 17 rfl) (by decide) rfl ?_
                refine k_lload C (dk dX9_firstWrongPlace_1 18 rfl) 0 rfl ?_
                refine k_lconst (v := (0 : Int64)) C (dk dX9_firstWrongPlace_1 19 rfl) (by decide) ?_
                refine k_lcmp C (dk dX9_firstWrongPlace_1 20 rfl) ?_
                refine k_if_ne (tgt := 110) C (dk dX9_firstWrongPlace_1 21 rfl) (by decide) h (fun h => ?_) (fun h => ?_)
                ·
                  refine k_sub C [1, 2, 0, 3] rfl ?_
                  exact hJ110 _ _ _ h
                ·
                  refine k_iload C (dk dX9_firstWrongPlace_1 22 rfl) 3 rfl ?_
                  exact k_iret E (dk dX9_firstWrongPlace_1 23 rfl) h
              ·
                refine k_if_le (tgt := 95) C (dk dX9_firstWrongPlace_1 10 rfl) (by decide) h (fun h => ?_) (fun h => ?_)
                ·
                  refine k_lload C (dk dX9_firstWrongPlace_1 15 rfl) 0 rfl ?_
                  refine k_sub C [1, 2, 4] rfl ?_
                  exact hJ97 _ _ h
                ·
                  refine k_lload C (dk dX9_firstWrongPlace_1 11 rfl) 0 rfl ?_
                  refine k_lload_n C (dk dX9_firstWrongPlace_1 12 rfl) rfl 2 rfl ?_
                  refine k_land C (dk dX9_firstWrongPlace_1 13 rfl) ?_
                  refine k_goto (tgt := 97) C (dk dX9_firstWrongPlace_1 14 rfl) (by decide) ?_
                  refine k_sub C [1, 2, 4] rfl ?_
                  exact hJ97 _ _ h
            ·
              refine k_if_eq (tgt := 78) C (dk dX9_firstWrongPlace_1 1 rfl) (by decide) h (fun h => ?_) (fun h => ?_)
              ·
                refine k_lconst (v := (0 : Int64)) C (dk dX9_firstWrongPlace_1 6 rfl) (by decide) ?_
                refine k_sub C [0, 1, 2, 3] rfl ?_
                exact hJ79 _ _ h
              ·
                refine k_lload C (dk dX9_firstWrongPlace_1 2 rfl) 4 rfl ?_
                refine k_l2i C (dk dX9_firstWrongPlace_1 3 rfl) ?_
                refine cl2_k h (fun x27 s26 hc h => ?_)
                refine k_cs (As := [.int x11.toInt32]) (st := []) C (qX7_bit l g hg hc) (iW27 _ (List.mem_of_getElem? (i := 9) rfl)) (iW14 _ (List.mem_of_getElem? (i := 15) rfl)) (iW7 _ (List.mem_of_getElem? (i := 4) rfl)) (iW14 _ (List.mem_of_getElem? (i := 16) rfl)) rfl rfl hdX7_bit (by decide) rfl rfl (Nat.le_of_ble_eq_true rfl) (dk dX9_firstWrongPlace_1 4 rfl) ?_
                refine k_goto (tgt := 79) C (dk dX9_firstWrongPlace_1 5 rfl) (by decide) ?_
                refine k_sub C [0, 1, 2, 3] rfl ?_
                exact hJ79 _ _ h
      ·
        refine k_if_le (tgt := 51) C (dk dX9_firstWrongPlace_0 18 rfl) (by decide) h (fun h => ?_) (fun h => ?_)
        ·
          refine k_sub C [1, 2, 3, 4, 0] rfl ?_
          exact hJ51 _ _ h
        ·
          refine k_lload C (dk dX9_firstWrongPlace_0 19 rfl) 3 rfl ?_
          refine k_lload C (dk dX9_firstWrongPlace_0 20 rfl) 3 rfl ?_
          refine cl2_k h (fun x29 s28 hc h => ?_)
          refine k_cs (As := [.long y6]) (st := [.long y6]) C (qX7_spread l g hg hc) (iW26 _ (List.mem_of_getElem? (i := 7) rfl)) (iW14 _ (List.mem_of_getElem? (i := 25) rfl)) (iW7 _ (List.mem_of_getElem? (i := 4) rfl)) (iW14 _ (List.mem_of_getElem? (i := 26) rfl)) rfl rfl hdX7_spread (by decide) rfl rfl (Nat.le_of_ble_eq_true rfl) (dk dX9_firstWrongPlace_0 21 rfl) ?_
          refine k_lload_n C (dk dX9_firstWrongPlace_0 22 rfl) rfl 2 rfl ?_
          refine k_land C (dk dX9_firstWrongPlace_0 23 rfl) ?_
          refine k_lor C (dk dX9_firstWrongPlace_0 24 rfl) ?_
          refine nmL h (fun x30 h => ?_)
          refine k_lstore (lv' := [(4, .long x30), (7, .long x11), (0, .ref (g.2.2 o0)), (2, .long x2), (6, .int y7)]) C (dk dX9_firstWrongPlace_0 25 rfl) (by decide) rfl ?_
          refine k_sub C [2, 3, 0, 4, 1] rfl ?_
          exact hJ51 _ _ h
  ·
    refine k_sub C [3, 2, 1, 0] rfl ?_
    exact hJ17 _ _ _ h
set_option maxRecDepth 100000 in
set_option maxHeartbeats 4000000 in
theorem qX9_fitOn (l : Launch) (g : G) (hg : gOK g) {o0 : Nat} {a1 : Int32} {a3 : Int64} (ho0 : kd o0 = 3) {s0 σe : St} {v : Int64} (h : mX9_fitOn o0 a1 a3 s0 = some (v, σe)) : Mc l g yX9_fitOn cX9_fitOn 5 (some .long) { frames := 2, cells := 0, slots := 0, locals := 42 } [.ref (g.2.2 o0), .int a1, .ref (g.2.2 28), .long a3] s0 (some (.long v)) σe := by
  refine k_enter hg pnRX9 rfl (Nat.le_of_ble_eq_true rfl) ?_
  intro WK E
  have C := kX_y E
  unfold mX9_fitOn at h
  show WK 0 [(0, .ref (g.2.2 o0)), (1, .int a1), (2, .ref (g.2.2 28)), (3, .long a3)] [] s0
  refine k_aload_n C (dk dX9_fitOn_0 0 rfl) rfl 2 rfl ?_
  refine k_aload_n C (dk dX9_fitOn_0 1 rfl) rfl 0 rfl ?_
  refine k_iload_n C (dk dX9_fitOn_0 2 rfl) rfl 1 rfl ?_
  refine cl2_k h (fun x2 s1 hc h => ?_)
  refine k_cv (T := TX5) (N := 6) (ci := 3) (ob := o0) (As := [.int a1]) (st := [.ref (g.2.2 28)]) C (qX5_numberAt l g hg ho0 hc) (iW26 _ (List.mem_of_getElem? (i := 2) rfl)) (iW4 _ (List.mem_of_getElem? (i := 21) rfl)) (iW4 _ (List.mem_of_getElem? (i := 22) rfl)) (iW1 _ (List.mem_of_getElem? (i := 3) rfl)) (iW4 _ (List.mem_of_getElem? (i := 23) rfl)) rfl rfl hdX5_numberAt (by decide) ho0 (by decide) rfl rfl rfl (Nat.le_of_ble_eq_true rfl) (dk dX9_fitOn_0 3 rfl) ?_
  refine k_l2i C (dk dX9_fitOn_0 4 rfl) ?_
  refine cl2_k h (fun x4 s3 hc h => ?_)
  refine k_cv (T := TX0) (N := 9) (ci := 0) (ob := 28) (As := [.int x2.toInt32]) (st := []) C (qX0_nearOf l g hg hc) (iW26 _ (List.mem_of_getElem? (i := 11) rfl)) (iW25 _ (List.mem_of_getElem? (i := 12) rfl)) (iW25 _ (List.mem_of_getElem? (i := 13) rfl)) (iW0 _ (List.mem_of_getElem? (i := 21) rfl)) (iW25 _ (List.mem_of_getElem? (i := 14) rfl)) rfl rfl hdX0_nearOf (by decide) rfl (by decide) rfl rfl rfl (Nat.le_of_ble_eq_true rfl) (dk dX9_fitOn_0 5 rfl) ?_
  refine k_lload_n C (dk dX9_fitOn_0 6 rfl) rfl 3 rfl ?_
  refine k_land C (dk dX9_fitOn_0 7 rfl) ?_
  exact k_lret E (dk dX9_fitOn_0 8 rfl) h
set_option maxRecDepth 100000 in
set_option maxHeartbeats 4000000 in
theorem qX9_follow (l : Launch) (g : G) (hg : gOK g) {o1 : Nat} {a3 : Int64} (ho1 : kd o1 = 3) {s0 σe : St} {v : Int64} (h : mX9_follow o1 a3 s0 = some (v, σe)) : Mc l g yX9_follow cX9_follow 8 (some .long) { frames := 3, cells := 0, slots := 0, locals := 66 } [.ref (g.2.2 38), .ref (g.2.2 o1), .ref (g.2.2 28), .long a3] s0 (some (.long v)) σe := by
  refine k_enter hg pnRX9 rfl (Nat.le_of_ble_eq_true rfl) ?_
  intro WK E
  have C := kX_y E
  unfold mX9_follow at h
  show WK 0 [(0, .ref (g.2.2 38)), (1, .ref (g.2.2 o1)), (2, .ref (g.2.2 28)), (3, .long a3)] [] s0
  refine k_lload_n C (dk dX9_follow_0 0 rfl) rfl 3 rfl ?_
  refine k_lstore (lv' := [(5, .long a3), (0, .ref (g.2.2 38)), (1, .ref (g.2.2 o1)), (2, .ref (g.2.2 28)), (3, .long a3)]) C (dk dX9_follow_0 1 rfl) (by decide) rfl ?_
  refine k_iconst (v := (0 : Int32)) C (dk dX9_follow_0 2 rfl) (by decide) ?_
  refine k_istore (lv' := [(7, .int (0 : Int32)), (5, .long a3), (0, .ref (g.2.2 38)), (1, .ref (g.2.2 o1)), (2, .ref (g.2.2 28)), (3, .long a3)]) C (dk dX9_follow_0 3 rfl) (by decide) rfl ?_
  refine kl_L (P := (fun J6 => ∀ (y1 : Int64) (y2 : Int32) (s3 : St), J6 y1 y2 s3 = some (v, σe) → WK 6 [(0, .ref (g.2.2 38)), (1, .ref (g.2.2 o1)), (2, .ref (g.2.2 28)), (3, .long a3), (5, .long y1), (7, .int y2)] [] s3)) h (fun _ _ _ h => nomatch h) (fun J6 hJ6 y1 y2 s3 h => ?_) (fun J6 hJ6 h => ?_)
  ·
    unfold mX9_follow_6 at h
    refine k_iload C (dk dX9_follow_0 4 rfl) 5 rfl ?_
    refine k_aload_n C (dk dX9_follow_0 5 rfl) rfl 1 rfl ?_
    refine k_getI (D := RX5) (T := TX5) (N := 6) (ci := 3) (k := 4) C iCX5 ho1 (by decide) rfl (by decide) (iW26 _ (List.mem_of_getElem? (i := 1) rfl)) rfl (dk dX9_follow_0 6 rfl) h (fun x4 h => ?_)
    refine kl_J (P := (fun J53 => ∀ (s5 : St), J53 s5 = some (v, σe) → WK 53 [(5, .long y1)] [] s5)) h (fun s5 h => ?_) (fun J53 hJ53 h => ?_)
    ·
      unfold mX9_follow_53 at h
      refine k_lload C (dk dX9_follow_0 27 rfl) 0 rfl ?_
      exact k_lret E (dk dX9_follow_0 28 rfl) h
    ·
      refine k_icmp_ge (tgt := 53) C (dk dX9_follow_0 7 rfl) (by decide) h (fun h => ?_) (fun h => ?_)
      ·
        refine k_sub C [4] rfl ?_
        exact hJ53 _ h
      ·
        refine k_iload C (dk dX9_follow_0 8 rfl) 5 rfl ?_
        refine k_bipush (v := (100 : Int32)) C (dk dX9_follow_0 9 rfl) (by decide) ?_
        refine k_icmp_ge (tgt := 53) C (dk dX9_follow_0 10 rfl) (by decide) h (fun h => ?_) (fun h => ?_)
        ·
          refine k_sub C [4] rfl ?_
          exact hJ53 _ h
        ·
          refine k_lload C (dk dX9_follow_0 11 rfl) 4 rfl ?_
          refine cl2_k h (fun x7 s6 hc h => ?_)
          refine k_cs (As := [.long y1]) (st := []) C (qX7_spread l g hg hc) (iW26 _ (List.mem_of_getElem? (i := 7) rfl)) (iW14 _ (List.mem_of_getElem? (i := 25) rfl)) (iW7 _ (List.mem_of_getElem? (i := 4) rfl)) (iW14 _ (List.mem_of_getElem? (i := 26) rfl)) rfl rfl hdX7_spread (by decide) rfl rfl (Nat.le_of_ble_eq_true rfl) (dk dX9_follow_0 12 rfl) ?_
          refine k_aload_n C (dk dX9_follow_0 13 rfl) rfl 1 rfl ?_
          refine k_iload C (dk dX9_follow_0 14 rfl) 5 rfl ?_
          refine k_aload_n C (dk dX9_follow_0 15 rfl) rfl 2 rfl ?_
          refine k_lload_n C (dk dX9_follow_0 16 rfl) rfl 3 rfl ?_
          refine cl2_k h (fun x9 s8 hc h => ?_)
          refine k_cs (As := [.ref (g.2.2 o1), .int y2, .ref (g.2.2 28), .long a3]) (st := [.long x7]) C (qX9_fitOn l g hg ho1 hc) (iW26 _ (List.mem_of_getElem? (i := 8) rfl)) (iW26 _ (List.mem_of_getElem? (i := 9) rfl)) (iW0 _ (List.mem_of_getElem? (i := 25) rfl)) (iW26 _ (List.mem_of_getElem? (i := 10) rfl)) rfl rfl hdX9_fitOn (by decide) rfl rfl (Nat.le_of_ble_eq_true rfl) (dk dX9_follow_0 17 rfl) ?_
          refine k_land C (dk dX9_follow_0 18 rfl) ?_
          refine nmL h (fun x10 h => ?_)
          refine k_lstore (lv' := [(5, .long x10), (0, .ref (g.2.2 38)), (1, .ref (g.2.2 o1)), (2, .ref (g.2.2 28)), (3, .long a3), (7, .int y2)]) C (dk dX9_follow_0 19 rfl) (by decide) rfl ?_
          refine k_aload_n C (dk dX9_follow_0 20 rfl) rfl 1 rfl ?_
          refine k_getR (q := 39) (D := RX9) (T := TX9) (N := 3) (ci := 4) (k := 0) C iCX9 rfl (by decide) rfl (by decide) (iW2 _ (List.mem_of_getElem? (i := 5) rfl)) rfl (dk dX9_follow_0 21 rfl) ?_
          refine k_iload C (dk dX9_follow_0 22 rfl) 5 rfl ?_
          refine k_lload C (dk dX9_follow_0 23 rfl) 0 rfl ?_
          refine k_last C rfl rfl (dk dX9_follow_0 24 rfl) h (fun s11 h => ?_)
          refine k_iinc (lv' := [(7, .int (y2 + 1)), (5, .long x10), (0, .ref (g.2.2 38)), (1, .ref (g.2.2 o1)), (2, .ref (g.2.2 28)), (3, .long a3)]) C (dk dX9_follow_0 25 rfl) (j := 5) rfl rfl (by decide) rfl ?_
          refine k_goto (tgt := 6) C (dk dX9_follow_0 26 rfl) (by decide) ?_
          refine k_sub C [2, 3, 4, 5, 1, 0] rfl ?_
          exact hJ6 _ _ _ h
  ·
    refine k_sub C [2, 3, 4, 5, 1, 0] rfl ?_
    exact hJ6 _ _ _ h
set_option maxRecDepth 100000 in
set_option maxHeartbeats 4000000 in
theorem qX9_leftAround (l : Launch) (g : G) (hg : gOK g) {a1 : Int32}  {s0 σe : St} {v : Int64} (h : mX9_leftAround a1 s0 = some (v, σe)) : Mc l g yX9_leftAround cX9_leftAround 6 (some .long) { frames := 2, cells := 0, slots := 0, locals := 42 } [.ref (g.2.2 38), .int a1] s0 (some (.long v)) σe := by
  refine k_enter hg pnRX9 rfl (Nat.le_of_ble_eq_true rfl) ?_
  intro WK E
  have C := kX_y E
  unfold mX9_leftAround at h
  show WK 0 [(0, .ref (g.2.2 38)), (1, .int a1)] [] s0
  refine k_lconst (v := (0 : Int64)) C (dk dX9_leftAround_0 0 rfl) (by decide) ?_
  refine k_lstore_n (lv' := [(2, .long (0 : Int64)), (0, .ref (g.2.2 38)), (1, .int a1)]) C (dk dX9_leftAround_0 1 rfl) rfl (by decide) rfl ?_
  refine k_iconst (v := (0 : Int32)) C (dk dX9_leftAround_0 2 rfl) (by decide) ?_
  refine k_istore (lv' := [(4, .int (0 : Int32)), (2, .long (0 : Int64)), (0, .ref (g.2.2 38)), (1, .int a1)]) C (dk dX9_leftAround_0 3 rfl) (by decide) rfl ?_
  refine kl_L (P := (fun J5 => ∀ (y1 : Int64) (y2 : Int32) (s3 : St), J5 y1 y2 s3 = some (v, σe) → WK 5 [(0, .ref (g.2.2 38)), (1, .int a1), (2, .long y1), (4, .int y2)] [] s3)) h (fun _ _ _ h => nomatch h) (fun J5 hJ5 y1 y2 s3 h => ?_) (fun J5 hJ5 h => ?_)
  ·
    unfold mX9_leftAround_5 at h
    refine k_iload C (dk dX9_leftAround_0 4 rfl) 3 rfl ?_
    refine k_iconst (v := (5 : Int32)) C (dk dX9_leftAround_0 5 rfl) (by decide) ?_
    refine k_icmp_ge (tgt := 44) C (dk dX9_leftAround_0 6 rfl) (by decide) h (fun h => ?_) (fun h => ?_)
    ·
      refine k_lload_n C (dk dX9_leftAround_0 24 rfl) rfl 2 rfl ?_
      exact k_lret E (dk dX9_leftAround_0 25 rfl) h
    ·
      refine k_iload_n C (dk dX9_leftAround_0 7 rfl) rfl 1 rfl ?_
      refine k_iload C (dk dX9_leftAround_0 8 rfl) 3 rfl ?_
      refine cl2_k h (fun x5 s4 hc h => ?_)
      refine k_cs (As := [.int a1, .int y2]) (st := []) C (qX7_cellTo l g hg hc) (iW27 _ (List.mem_of_getElem? (i := 14) rfl)) (iW7 _ (List.mem_of_getElem? (i := 3) rfl)) (iW7 _ (List.mem_of_getElem? (i := 4) rfl)) (iW7 _ (List.mem_of_getElem? (i := 5) rfl)) rfl rfl hdX7_cellTo (by decide) rfl rfl (Nat.le_of_ble_eq_true rfl) (dk dX9_leftAround_0 9 rfl) ?_
      refine k_istore (lv' := [(5, .int x5), (0, .ref (g.2.2 38)), (1, .int a1), (2, .long y1), (4, .int y2)]) C (dk dX9_leftAround_0 10 rfl) (by decide) rfl ?_
      refine k_iload C (dk dX9_leftAround_0 11 rfl) 0 rfl ?_
      refine k_i2l C (dk dX9_leftAround_0 12 rfl) ?_
      refine cl2_k h (fun x7 s6 hc h => ?_)
      refine k_cn (As := [.long x5.toInt64]) (st := []) C (qX10_isCell l g hg hc) (iW5 _ (List.mem_of_getElem? (i := 21) rfl)) rfl rfl (List.mem_of_getElem? (i := 6) rfl) (iW5 _ (List.mem_of_getElem? (i := 20) rfl)) (iW0 _ (List.mem_of_getElem? (i := 2) rfl)) hdX10_isCell (by decide) rfl rfl (Nat.le_of_ble_eq_true rfl) (dk dX9_leftAround_0 13 rfl) ?_
      refine kl_J (P := (fun J38 => ∀ (y8 : Int64) (y9 : Int32) (s10 : St), J38 y8 y9 s10 = some (v, σe) → WK 38 [(0, .ref (g.2.2 38)), (1, .int a1), (2, .long y8), (4, .int y9)] [] s10)) h (fun y8 y9 s10 h => ?_) (fun J38 hJ38 h => ?_)
      ·
        unfold mX9_leftAround_38 at h
        refine k_iinc (lv' := [(4, .int (y9 + 1)), (0, .ref (g.2.2 38)), (1, .int a1), (2, .long y8)]) C (dk dX9_leftAround_0 22 rfl) (j := 3) rfl rfl (by decide) rfl ?_
        refine k_goto (tgt := 5) C (dk dX9_leftAround_0 23 rfl) (by decide) ?_
        refine k_sub C [1, 2, 3, 0] rfl ?_
        exact hJ5 _ _ _ h
      ·
        refine k_if_eq (tgt := 38) C (dk dX9_leftAround_0 14 rfl) (by decide) h (fun h => ?_) (fun h => ?_)
        ·
          refine k_sub C [1, 2, 3, 4] rfl ?_
          exact hJ38 _ _ _ h
        ·
          refine k_lload_n C (dk dX9_leftAround_0 15 rfl) rfl 3 rfl ?_
          refine k_aload_n C (dk dX9_leftAround_0 16 rfl) rfl 1 rfl ?_
          refine k_getR (q := 40) (D := RX9) (T := TX9) (N := 3) (ci := 4) (k := 1) C iCX9 rfl (by decide) rfl (by decide) (iW2 _ (List.mem_of_getElem? (i := 6) rfl)) rfl (dk dX9_leftAround_0 17 rfl) ?_
          refine k_iload C (dk dX9_leftAround_0 18 rfl) 0 rfl ?_
          refine k_lald C rfl rfl (dk dX9_leftAround_0 19 rfl) h (fun x11 h => ?_)
          refine k_lor C (dk dX9_leftAround_0 20 rfl) ?_
          refine nmL h (fun x12 h => ?_)
          refine k_lstore_n (lv' := [(2, .long x12), (5, .int x5), (0, .ref (g.2.2 38)), (1, .int a1), (4, .int y2)]) C (dk dX9_leftAround_0 21 rfl) rfl (by decide) rfl ?_
          refine k_sub C [2, 3, 0, 4] rfl ?_
          exact hJ38 _ _ _ h
  ·
    refine k_sub C [2, 3, 1, 0] rfl ?_
    exact hJ5 _ _ _ h
set_option maxRecDepth 100000 in
set_option maxHeartbeats 4000000 in
theorem qX9_worstOf (l : Launch) (g : G) (hg : gOK g) {a1 : Int64}  {s0 σe : St} {v : Int32} (h : mX9_worstOf a1 s0 = some (v, σe)) : Mc l g yX9_worstOf cX9_worstOf 5 (some .int) { frames := 2, cells := 0, slots := 0, locals := 42 } [.ref (g.2.2 38), .long a1] s0 (some (.int v)) σe := by
  refine k_enter hg pnRX9 rfl (Nat.le_of_ble_eq_true rfl) ?_
  intro WK E
  have C := kX_y E
  unfold mX9_worstOf at h
  show WK 0 [(0, .ref (g.2.2 38)), (1, .long a1)] [] s0
  refine k_iconst (v := (0 : Int32)) C (dk dX9_worstOf_0 0 rfl) (by decide) ?_
  refine k_istore_n (lv' := [(3, .int (0 : Int32)), (0, .ref (g.2.2 38)), (1, .long a1)]) C (dk dX9_worstOf_0 1 rfl) rfl (by decide) rfl ?_
  refine k_iconst (v := (0 : Int32)) C (dk dX9_worstOf_0 2 rfl) (by decide) ?_
  refine k_istore (lv' := [(4, .int (0 : Int32)), (3, .int (0 : Int32)), (0, .ref (g.2.2 38)), (1, .long a1)]) C (dk dX9_worstOf_0 3 rfl) (by decide) rfl ?_
  refine kl_L (P := (fun J5 => ∀ (y1 : Int32) (y2 : Int32) (s3 : St), J5 y1 y2 s3 = some (v, σe) → WK 5 [(0, .ref (g.2.2 38)), (1, .long a1), (3, .int y1), (4, .int y2)] [] s3)) h (fun _ _ _ h => nomatch h) (fun J5 hJ5 y1 y2 s3 h => ?_) (fun J5 hJ5 h => ?_)
  ·
    unfold mX9_worstOf_5 at h
    refine k_iload C (dk dX9_worstOf_0 4 rfl) 3 rfl ?_
    refine k_bipush (v := (36 : Int32)) C (dk dX9_worstOf_0 5 rfl) (by decide) ?_
    refine k_icmp_ge (tgt := 42) C (dk dX9_worstOf_0 6 rfl) (by decide) h (fun h => ?_) (fun h => ?_)
    ·
      refine k_iload_n C (dk dX9_worstOf_0 21 rfl) rfl 2 rfl ?_
      exact k_iret E (dk dX9_worstOf_0 22 rfl) h
    ·
      refine k_lload_n C (dk dX9_worstOf_0 7 rfl) rfl 1 rfl ?_
      refine k_iload C (dk dX9_worstOf_0 8 rfl) 3 rfl ?_
      refine cl2_k h (fun x5 s4 hc h => ?_)
      refine k_cs (As := [.long a1, .int y2]) (st := []) C (qX7_has l g hg hc) (iW27 _ (List.mem_of_getElem? (i := 15) rfl)) (iW14 _ (List.mem_of_getElem? (i := 22) rfl)) (iW7 _ (List.mem_of_getElem? (i := 4) rfl)) (iW14 _ (List.mem_of_getElem? (i := 23) rfl)) rfl rfl hdX7_has (by decide) rfl rfl (Nat.le_of_ble_eq_true rfl) (dk dX9_worstOf_0 9 rfl) ?_
      refine kl_J (P := (fun J36 => ∀ (y6 : Int32) (y7 : Int32) (s8 : St), J36 y6 y7 s8 = some (v, σe) → WK 36 [(0, .ref (g.2.2 38)), (1, .long a1), (3, .int y6), (4, .int y7)] [] s8)) h (fun y6 y7 s8 h => ?_) (fun J36 hJ36 h => ?_)
      ·
        unfold mX9_worstOf_36 at h
        refine k_iinc (lv' := [(4, .int (y7 + 1)), (0, .ref (g.2.2 38)), (1, .long a1), (3, .int y6)]) C (dk dX9_worstOf_0 19 rfl) (j := 3) rfl rfl (by decide) rfl ?_
        refine k_goto (tgt := 5) C (dk dX9_worstOf_0 20 rfl) (by decide) ?_
        refine k_sub C [1, 2, 3, 0] rfl ?_
        exact hJ5 _ _ _ h
      ·
        refine k_if_eq (tgt := 36) C (dk dX9_worstOf_0 10 rfl) (by decide) h (fun h => ?_) (fun h => ?_)
        ·
          exact hJ36 _ _ _ h
        ·
          refine k_iload_n C (dk dX9_worstOf_0 11 rfl) rfl 2 rfl ?_
          refine k_aload_n C (dk dX9_worstOf_0 12 rfl) rfl 0 rfl ?_
          refine k_getR (q := 40) (D := RX9) (T := TX9) (N := 3) (ci := 4) (k := 1) C iCX9 rfl (by decide) rfl (by decide) (iW2 _ (List.mem_of_getElem? (i := 6) rfl)) rfl (dk dX9_worstOf_0 13 rfl) ?_
          refine k_iload C (dk dX9_worstOf_0 14 rfl) 3 rfl ?_
          refine k_lald C rfl rfl (dk dX9_worstOf_0 15 rfl) h (fun x9 h => ?_)
          refine cl2_k h (fun x11 s10 hc h => ?_)
          refine k_cs (As := [.long x9]) (st := [.int y1]) C (qJ13_bitCount_95d88 l g hg hc) (iW27 _ (List.mem_of_getElem? (i := 23) rfl)) (iW16 _ (List.mem_of_getElem? (i := 20) rfl)) (iW16 _ (List.mem_of_getElem? (i := 21) rfl)) (iW16 _ (List.mem_of_getElem? (i := 22) rfl)) rfl rfl hdJ13_bitCount_95d88 (by decide) rfl rfl (Nat.le_of_ble_eq_true rfl) (dk dX9_worstOf_0 16 rfl) ?_
          refine k_mmax C (iW27 _ (List.mem_of_getElem? (i := 20) rfl)) (iW27 _ (List.mem_of_getElem? (i := 21) rfl)) (iW7 _ (List.mem_of_getElem? (i := 17) rfl)) (iW27 _ (List.mem_of_getElem? (i := 22) rfl)) (Nat.le_of_ble_eq_true rfl) (Nat.le_of_ble_eq_true rfl) (dk dX9_worstOf_0 17 rfl) ?_
          refine nmI h (fun x12 h => ?_)
          refine k_istore_n (lv' := [(3, .int x12), (0, .ref (g.2.2 38)), (1, .long a1), (4, .int y2)]) C (dk dX9_worstOf_0 18 rfl) rfl (by decide) rfl ?_
          refine k_sub C [1, 2, 0, 3] rfl ?_
          exact hJ36 _ _ _ h
  ·
    refine k_sub C [2, 3, 1, 0] rfl ?_
    exact hJ5 _ _ _ h
set_option maxRecDepth 100000 in
set_option maxHeartbeats 4000000 in
theorem qX9_bestDay (l : Launch) (g : G) (hg : gOK g) {o1 : Nat} {a3 : Int64} (ho1 : kd o1 = 3) {s0 σe : St} {v : Int32} (h : mX9_bestDay o1 a3 s0 = some (v, σe)) : Mc l g yX9_bestDay cX9_bestDay 12 (some .int) { frames := 3, cells := 0, slots := 0, locals := 67 } [.ref (g.2.2 38), .ref (g.2.2 o1), .ref (g.2.2 28), .long a3] s0 (some (.int v)) σe := by
  refine k_enter hg pnRX9 rfl (Nat.le_of_ble_eq_true rfl) ?_
  intro WK E
  have C := kX_y E
  unfold mX9_bestDay at h
  show WK 0 [(0, .ref (g.2.2 38)), (1, .ref (g.2.2 o1)), (2, .ref (g.2.2 28)), (3, .long a3)] [] s0
  refine k_bipush (v := (-4 : Int32)) C (dk dX9_bestDay_0 0 rfl) (by decide) ?_
  refine k_istore (lv' := [(5, .int (-4 : Int32)), (0, .ref (g.2.2 38)), (1, .ref (g.2.2 o1)), (2, .ref (g.2.2 28)), (3, .long a3)]) C (dk dX9_bestDay_0 1 rfl) (by decide) rfl ?_
  refine k_bipush (v := (37 : Int32)) C (dk dX9_bestDay_0 2 rfl) (by decide) ?_
  refine k_istore (lv' := [(6, .int (37 : Int32)), (5, .int (-4 : Int32)), (0, .ref (g.2.2 38)), (1, .ref (g.2.2 o1)), (2, .ref (g.2.2 28)), (3, .long a3)]) C (dk dX9_bestDay_0 3 rfl) (by decide) rfl ?_
  refine k_aload_n C (dk dX9_bestDay_0 4 rfl) rfl 3 rfl ?_
  refine k_getI (D := RX5) (T := TX5) (N := 6) (ci := 3) (k := 4) C iCX5 ho1 (by decide) rfl (by decide) (iW26 _ (List.mem_of_getElem? (i := 1) rfl)) rfl (dk dX9_bestDay_0 5 rfl) h (fun x1 h => ?_)
  refine k_bipush (v := (100 : Int32)) C (dk dX9_bestDay_0 6 rfl) (by decide) ?_
  refine k_mmin C (iW27 _ (List.mem_of_getElem? (i := 6) rfl)) (iW27 _ (List.mem_of_getElem? (i := 7) rfl)) (iW7 _ (List.mem_of_getElem? (i := 17) rfl)) (iW27 _ (List.mem_of_getElem? (i := 8) rfl)) (Nat.le_of_ble_eq_true rfl) (Nat.le_of_ble_eq_true rfl) (dk dX9_bestDay_0 7 rfl) ?_
  refine k_iconst (v := (1 : Int32)) C (dk dX9_bestDay_0 8 rfl) (by decide) ?_
  refine k_isub C (dk dX9_bestDay_0 9 rfl) ?_
  refine nmI h (fun x2 h => ?_)
  refine k_istore (lv' := [(7, .int x2), (6, .int (37 : Int32)), (5, .int (-4 : Int32)), (0, .ref (g.2.2 38)), (1, .ref (g.2.2 o1)), (2, .ref (g.2.2 28)), (3, .long a3)]) C (dk dX9_bestDay_0 10 rfl) (by decide) rfl ?_
  refine k_iload C (dk dX9_bestDay_0 11 rfl) 0 rfl ?_
  refine k_istore (lv' := [(8, .int x2), (7, .int x2), (6, .int (37 : Int32)), (5, .int (-4 : Int32)), (0, .ref (g.2.2 38)), (1, .ref (g.2.2 o1)), (2, .ref (g.2.2 28)), (3, .long a3)]) C (dk dX9_bestDay_0 12 rfl) (by decide) rfl ?_
  refine kl_L (P := (fun J25 => ∀ (y3 : Int32) (y4 : Int32) (y5 : Int32) (s6 : St), J25 y3 y4 y5 s6 = some (v, σe) → WK 25 [(0, .ref (g.2.2 38)), (1, .ref (g.2.2 o1)), (2, .ref (g.2.2 28)), (3, .long a3), (5, .int y3), (6, .int y4), (7, .int x2), (8, .int y5)] [] s6)) h (fun _ _ _ _ h => nomatch h) (fun J25 hJ25 y3 y4 y5 s6 h => ?_) (fun J25 hJ25 h => ?_)
  ·
    unfold mX9_bestDay_25 at h
    refine k_iload C (dk dX9_bestDay_0 13 rfl) 7 rfl ?_
    refine k_if_lt (tgt := 162) C (dk dX9_bestDay_0 14 rfl) (by decide) h (fun h => ?_) (fun h => ?_)
    ·
      refine k_iload C (dk dX9_bestDay_2 14 rfl) 4 rfl ?_
      exact k_iret E (dk dX9_bestDay_2 15 rfl) h
    ·
      refine k_aload_n C (dk dX9_bestDay_0 15 rfl) rfl 1 rfl ?_
      refine k_iload C (dk dX9_bestDay_0 16 rfl) 7 rfl ?_
      refine k_aload_n C (dk dX9_bestDay_0 17 rfl) rfl 2 rfl ?_
      refine k_lload_n C (dk dX9_bestDay_0 18 rfl) rfl 3 rfl ?_
      refine cl2_k h (fun x8 s7 hc h => ?_)
      refine k_cs (As := [.ref (g.2.2 o1), .int y5, .ref (g.2.2 28), .long a3]) (st := []) C (qX9_fitOn l g hg ho1 hc) (iW26 _ (List.mem_of_getElem? (i := 8) rfl)) (iW26 _ (List.mem_of_getElem? (i := 9) rfl)) (iW0 _ (List.mem_of_getElem? (i := 25) rfl)) (iW26 _ (List.mem_of_getElem? (i := 10) rfl)) rfl rfl hdX9_fitOn (by decide) rfl rfl (Nat.le_of_ble_eq_true rfl) (dk dX9_bestDay_0 19 rfl) ?_
      refine k_lstore (lv' := [(9, .long x8), (0, .ref (g.2.2 38)), (1, .ref (g.2.2 o1)), (2, .ref (g.2.2 28)), (3, .long a3), (5, .int y3), (6, .int y4), (7, .int x2), (8, .int y5)]) C (dk dX9_bestDay_0 20 rfl) (by decide) rfl ?_
      refine k_iconst (v := (0 : Int32)) C (dk dX9_bestDay_0 21 rfl) (by decide) ?_
      refine k_istore (lv' := [(11, .int (0 : Int32)), (9, .long x8), (0, .ref (g.2.2 38)), (1, .ref (g.2.2 o1)), (2, .ref (g.2.2 28)), (3, .long a3), (5, .int y3), (6, .int y4), (7, .int x2), (8, .int y5)]) C (dk dX9_bestDay_0 22 rfl) (by decide) rfl ?_
      refine kl_L (P := (fun J43 => ∀ (y9 : Int32) (s10 : St), J43 y9 s10 = some (v, σe) → WK 43 [(0, .ref (g.2.2 38)), (1, .ref (g.2.2 o1)), (2, .ref (g.2.2 28)), (3, .long a3), (5, .int y3), (6, .int y4), (7, .int x2), (8, .int y5), (9, .long x8), (11, .int y9)] [] s10)) h (fun _ _ h => nomatch h) (fun J43 hJ43 y9 s10 h => ?_) (fun J43 hJ43 h => ?_)
      ·
        unfold mX9_bestDay_43 at h
        refine k_iload C (dk dX9_bestDay_0 23 rfl) 9 rfl ?_
        refine k_bipush (v := (36 : Int32)) C (dk dX9_bestDay_0 24 rfl) (by decide) ?_
        refine k_icmp_ge (tgt := 84) C (dk dX9_bestDay_0 25 rfl) (by decide) h (fun h => ?_) (fun h => ?_)
        ·
          refine k_iconst (v := (0 : Int32)) C (dk dX9_bestDay_1 9 rfl) (by decide) ?_
          refine k_istore (lv' := [(11, .int (0 : Int32)), (0, .ref (g.2.2 38)), (1, .ref (g.2.2 o1)), (2, .ref (g.2.2 28)), (3, .long a3), (5, .int y3), (6, .int y4), (7, .int x2), (8, .int y5), (9, .long x8)]) C (dk dX9_bestDay_1 10 rfl) (by decide) rfl ?_
          refine kl_L (P := (fun J87 => ∀ (y11 : Int32) (s12 : St), J87 y11 s12 = some (v, σe) → WK 87 [(0, .ref (g.2.2 38)), (1, .ref (g.2.2 o1)), (2, .ref (g.2.2 28)), (3, .long a3), (5, .int y3), (6, .int y4), (7, .int x2), (8, .int y5), (9, .long x8), (11, .int y11)] [] s12)) h (fun _ _ h => nomatch h) (fun J87 hJ87 y11 s12 h => ?_) (fun J87 hJ87 h => ?_)
          ·
            unfold mX9_bestDay_87 at h
            refine k_iload C (dk dX9_bestDay_1 11 rfl) 9 rfl ?_
            refine k_bipush (v := (36 : Int32)) C (dk dX9_bestDay_1 12 rfl) (by decide) ?_
            refine k_icmp_ge (tgt := 128) C (dk dX9_bestDay_1 13 rfl) (by decide) h (fun h => ?_) (fun h => ?_)
            ·
              refine k_aload_n C (dk dX9_bestDay_1 30 rfl) rfl 0 rfl ?_
              refine k_aload_n C (dk dX9_bestDay_1 31 rfl) rfl 0 rfl ?_
              refine k_getR (q := 39) (D := RX9) (T := TX9) (N := 3) (ci := 4) (k := 0) C iCX9 rfl (by decide) rfl (by decide) (iW2 _ (List.mem_of_getElem? (i := 5) rfl)) rfl (dk dX9_bestDay_2 0 rfl) ?_
              refine k_iload C (dk dX9_bestDay_2 1 rfl) 7 rfl ?_
              refine k_lald C rfl rfl (dk dX9_bestDay_2 2 rfl) h (fun x13 h => ?_)
              refine cl2_k h (fun x15 s14 hc h => ?_)
              refine k_cv (T := TX9) (N := 3) (ci := 4) (ob := 38) (As := [.long x13]) (st := []) C (qX9_worstOf l g hg hc) (iW27 _ (List.mem_of_getElem? (i := 16) rfl)) (iW27 _ (List.mem_of_getElem? (i := 17) rfl)) (iW27 _ (List.mem_of_getElem? (i := 18) rfl)) (iW0 _ (List.mem_of_getElem? (i := 25) rfl)) (iW27 _ (List.mem_of_getElem? (i := 19) rfl)) rfl rfl hdX9_worstOf (by decide) rfl (by decide) rfl rfl rfl (Nat.le_of_ble_eq_true rfl) (dk dX9_bestDay_2 3 rfl) ?_
              refine k_istore (lv' := [(11, .int x15), (0, .ref (g.2.2 38)), (1, .ref (g.2.2 o1)), (2, .ref (g.2.2 28)), (3, .long a3), (5, .int y3), (6, .int y4), (7, .int x2), (8, .int y5), (9, .long x8)]) C (dk dX9_bestDay_2 4 rfl) (by decide) rfl ?_
              refine k_iload C (dk dX9_bestDay_2 5 rfl) 0 rfl ?_
              refine k_iload C (dk dX9_bestDay_2 6 rfl) 6 rfl ?_
              refine kl_J (P := (fun J156 => ∀ (y16 : Int32) (y17 : Int32) (y18 : Int32) (s19 : St), J156 y16 y17 y18 s19 = some (v, σe) → WK 156 [(0, .ref (g.2.2 38)), (1, .ref (g.2.2 o1)), (2, .ref (g.2.2 28)), (3, .long a3), (5, .int y16), (6, .int y17), (7, .int x2), (8, .int y18)] [] s19)) h (fun y16 y17 y18 s19 h => ?_) (fun J156 hJ156 h => ?_)
              ·
                unfold mX9_bestDay_156 at h
                refine k_iinc (lv' := [(8, .int (y18 + (-1))), (0, .ref (g.2.2 38)), (1, .ref (g.2.2 o1)), (2, .ref (g.2.2 28)), (3, .long a3), (5, .int y16), (6, .int y17), (7, .int x2)]) C (dk dX9_bestDay_2 12 rfl) (j := 7) rfl rfl (by decide) rfl ?_
                refine k_goto (tgt := 25) C (dk dX9_bestDay_2 13 rfl) (by decide) ?_
                refine k_sub C [1, 2, 3, 4, 5, 6, 7, 0] rfl ?_
                exact hJ25 _ _ _ _ h
              ·
                refine k_icmp_gt (tgt := 156) C (dk dX9_bestDay_2 7 rfl) (by decide) h (fun h => ?_) (fun h => ?_)
                ·
                  refine k_sub C [1, 2, 3, 4, 5, 6, 7, 8] rfl ?_
                  exact hJ156 _ _ _ _ h
                ·
                  refine k_iload C (dk dX9_bestDay_2 8 rfl) 0 rfl ?_
                  refine k_istore (lv' := [(6, .int x15), (11, .int x15), (0, .ref (g.2.2 38)), (1, .ref (g.2.2 o1)), (2, .ref (g.2.2 28)), (3, .long a3), (5, .int y3), (7, .int x2), (8, .int y5), (9, .long x8)]) C (dk dX9_bestDay_2 9 rfl) (by decide) rfl ?_
                  refine k_iload C (dk dX9_bestDay_2 10 rfl) 8 rfl ?_
                  refine k_istore (lv' := [(5, .int y5), (6, .int x15), (11, .int x15), (0, .ref (g.2.2 38)), (1, .ref (g.2.2 o1)), (2, .ref (g.2.2 28)), (3, .long a3), (7, .int x2), (8, .int y5), (9, .long x8)]) C (dk dX9_bestDay_2 11 rfl) (by decide) rfl ?_
                  refine k_sub C [3, 4, 5, 6, 0, 1, 7, 8] rfl ?_
                  exact hJ156 _ _ _ _ h
            ·
              refine k_aload_n C (dk dX9_bestDay_1 14 rfl) rfl 0 rfl ?_
              refine k_getR (q := 40) (D := RX9) (T := TX9) (N := 3) (ci := 4) (k := 1) C iCX9 rfl (by decide) rfl (by decide) (iW2 _ (List.mem_of_getElem? (i := 6) rfl)) rfl (dk dX9_bestDay_1 15 rfl) ?_
              refine k_iload C (dk dX9_bestDay_1 16 rfl) 9 rfl ?_
              refine k_lload C (dk dX9_bestDay_1 17 rfl) 8 rfl ?_
              refine k_iload C (dk dX9_bestDay_1 18 rfl) 9 rfl ?_
              refine cl2_k h (fun x21 s20 hc h => ?_)
              refine k_cs (As := [.long x8, .int y11]) (st := [.int y11, .ref (g.2.2 40)]) C (qX7_has l g hg hc) (iW27 _ (List.mem_of_getElem? (i := 15) rfl)) (iW14 _ (List.mem_of_getElem? (i := 22) rfl)) (iW7 _ (List.mem_of_getElem? (i := 4) rfl)) (iW14 _ (List.mem_of_getElem? (i := 23) rfl)) rfl rfl hdX7_has (by decide) rfl rfl (Nat.le_of_ble_eq_true rfl) (dk dX9_bestDay_1 19 rfl) ?_
              refine kl_J (P := (fun J121 => ∀ (y22 : Int64) (s23 : St), J121 y22 s23 = some (v, σe) → WK 121 [(0, .ref (g.2.2 38)), (1, .ref (g.2.2 o1)), (2, .ref (g.2.2 28)), (3, .long a3), (5, .int y3), (6, .int y4), (7, .int x2), (8, .int y5), (9, .long x8), (11, .int y11)] [.long y22, .int y11, .ref (g.2.2 40)] s23)) h (fun y22 s23 h => ?_) (fun J121 hJ121 h => ?_)
              ·
                unfold mX9_bestDay_121 at h
                refine k_last C rfl rfl (dk dX9_bestDay_1 27 rfl) h (fun s24 h => ?_)
                refine k_iinc (lv' := [(11, .int (y11 + 1)), (0, .ref (g.2.2 38)), (1, .ref (g.2.2 o1)), (2, .ref (g.2.2 28)), (3, .long a3), (5, .int y3), (6, .int y4), (7, .int x2), (8, .int y5), (9, .long x8)]) C (dk dX9_bestDay_1 28 rfl) (j := 9) rfl rfl (by decide) rfl ?_
                refine k_goto (tgt := 87) C (dk dX9_bestDay_1 29 rfl) (by decide) ?_
                refine k_sub C [1, 2, 3, 4, 5, 6, 7, 8, 9, 0] rfl ?_
                exact hJ87 _ _ h
              ·
                refine k_if_eq (tgt := 120) C (dk dX9_bestDay_1 20 rfl) (by decide) h (fun h => ?_) (fun h => ?_)
                ·
                  refine k_lconst (v := (0 : Int64)) C (dk dX9_bestDay_1 26 rfl) (by decide) ?_
                  exact hJ121 _ _ h
                ·
                  refine k_aload_n C (dk dX9_bestDay_1 21 rfl) rfl 0 rfl ?_
                  refine k_getR (q := 41) (D := RX9) (T := TX9) (N := 3) (ci := 4) (k := 2) C iCX9 rfl (by decide) rfl (by decide) (iW2 _ (List.mem_of_getElem? (i := 7) rfl)) rfl (dk dX9_bestDay_1 22 rfl) ?_
                  refine k_iload C (dk dX9_bestDay_1 23 rfl) 9 rfl ?_
                  refine k_lald C rfl rfl (dk dX9_bestDay_1 24 rfl) h (fun x25 h => ?_)
                  refine k_goto (tgt := 121) C (dk dX9_bestDay_1 25 rfl) (by decide) ?_
                  exact hJ121 _ _ h
          ·
            refine k_sub C [1, 2, 3, 4, 5, 6, 7, 8, 9, 0] rfl ?_
            exact hJ87 _ _ h
        ·
          refine k_aload_n C (dk dX9_bestDay_0 26 rfl) rfl 0 rfl ?_
          refine k_getR (q := 41) (D := RX9) (T := TX9) (N := 3) (ci := 4) (k := 2) C iCX9 rfl (by decide) rfl (by decide) (iW2 _ (List.mem_of_getElem? (i := 7) rfl)) rfl (dk dX9_bestDay_0 27 rfl) ?_
          refine k_iload C (dk dX9_bestDay_0 28 rfl) 9 rfl ?_
          refine k_iload C (dk dX9_bestDay_0 29 rfl) 7 rfl ?_
          refine k_iload C (dk dX9_bestDay_0 30 rfl) 6 rfl ?_
          refine kl_J (P := (fun J77 => ∀ (y26 : Int64) (s27 : St), J77 y26 s27 = some (v, σe) → WK 77 [(0, .ref (g.2.2 38)), (1, .ref (g.2.2 o1)), (2, .ref (g.2.2 28)), (3, .long a3), (5, .int y3), (6, .int y4), (7, .int x2), (8, .int y5), (9, .long x8), (11, .int y9)] [.long y26, .int y9, .ref (g.2.2 41)] s27)) h (fun y26 s27 h => ?_) (fun J77 hJ77 h => ?_)
          ·
            unfold mX9_bestDay_77 at h
            refine k_last C rfl rfl (dk dX9_bestDay_1 6 rfl) h (fun s28 h => ?_)
            refine k_iinc (lv' := [(11, .int (y9 + 1)), (0, .ref (g.2.2 38)), (1, .ref (g.2.2 o1)), (2, .ref (g.2.2 28)), (3, .long a3), (5, .int y3), (6, .int y4), (7, .int x2), (8, .int y5), (9, .long x8)]) C (dk dX9_bestDay_1 7 rfl) (j := 9) rfl rfl (by decide) rfl ?_
            refine k_goto (tgt := 43) C (dk dX9_bestDay_1 8 rfl) (by decide) ?_
            refine k_sub C [1, 2, 3, 4, 5, 6, 7, 8, 9, 0] rfl ?_
            exact hJ43 _ _ h
          ·
            refine k_icmp_ne (tgt := 71) C (dk dX9_bestDay_0 31 rfl) (by decide) h (fun h => ?_) (fun h => ?_)
            ·
              refine k_aload_n C (dk dX9_bestDay_1 3 rfl) rfl 0 rfl ?_
              refine k_iload C (dk dX9_bestDay_1 4 rfl) 9 rfl ?_
              refine cl2_k h (fun x30 s29 hc h => ?_)
              refine k_cv (T := TX9) (N := 3) (ci := 4) (ob := 38) (As := [.int y9]) (st := [.int y9, .ref (g.2.2 41)]) C (qX9_leftAround l g hg hc) (iW27 _ (List.mem_of_getElem? (i := 10) rfl)) (iW27 _ (List.mem_of_getElem? (i := 11) rfl)) (iW27 _ (List.mem_of_getElem? (i := 12) rfl)) (iW0 _ (List.mem_of_getElem? (i := 25) rfl)) (iW27 _ (List.mem_of_getElem? (i := 13) rfl)) rfl rfl hdX9_leftAround (by decide) rfl (by decide) rfl rfl rfl (Nat.le_of_ble_eq_true rfl) (dk dX9_bestDay_1 5 rfl) ?_
              exact hJ77 _ _ h
            ·
              refine k_iload C (dk dX9_bestDay_1 0 rfl) 9 rfl ?_
              refine cl2_k h (fun x32 s31 hc h => ?_)
              refine k_cs (As := [.int y9]) (st := [.int y9, .ref (g.2.2 41)]) C (qX7_bit l g hg hc) (iW27 _ (List.mem_of_getElem? (i := 9) rfl)) (iW14 _ (List.mem_of_getElem? (i := 15) rfl)) (iW7 _ (List.mem_of_getElem? (i := 4) rfl)) (iW14 _ (List.mem_of_getElem? (i := 16) rfl)) rfl rfl hdX7_bit (by decide) rfl rfl (Nat.le_of_ble_eq_true rfl) (dk dX9_bestDay_1 1 rfl) ?_
              refine k_goto (tgt := 77) C (dk dX9_bestDay_1 2 rfl) (by decide) ?_
              exact hJ77 _ _ h
      ·
        refine k_sub C [2, 3, 4, 5, 6, 7, 8, 9, 1, 0] rfl ?_
        exact hJ43 _ _ h
  ·
    refine k_sub C [4, 5, 6, 7, 3, 2, 1, 0] rfl ?_
    exact hJ25 _ _ _ _ h
set_option maxRecDepth 100000 in
set_option maxHeartbeats 4000000 in
theorem qX10_isShelf (l : Launch) (g : G) (hg : gOK g) {a0 : Int32}  {s0 σe : St} {v : Int32} (h : mX10_isShelf a0 s0 = some (v, σe)) : Mc l g yX10_isShelf cX10_isShelf 1 (some .boolean) { frames := 0, cells := 0, slots := 0, locals := 0 } [.int a0] s0 (some (.int v)) σe := by
  refine k_enter hg pnRX10 rfl (Nat.le_of_ble_eq_true rfl) ?_
  intro WK E
  have C := kX_y E
  unfold mX10_isShelf at h
  show WK 0 [(0, .int a0)] [] s0
  refine k_iload_n C (dk dX10_isShelf_0 0 rfl) rfl 0 rfl ?_
  refine k_if_lt (tgt := 14) C (dk dX10_isShelf_0 1 rfl) (by decide) h (fun h => ?_) (fun h => ?_)
  ·
    refine k_iconst (v := (0 : Int32)) C (dk dX10_isShelf_0 7 rfl) (by decide) ?_
    exact k_zret E (dk dX10_isShelf_0 8 rfl) h
  ·
    refine k_iload_n C (dk dX10_isShelf_0 2 rfl) rfl 0 rfl ?_
    refine k_bipush (v := (8 : Int32)) C (dk dX10_isShelf_0 3 rfl) (by decide) ?_
    refine k_icmp_ge (tgt := 14) C (dk dX10_isShelf_0 4 rfl) (by decide) h (fun h => ?_) (fun h => ?_)
    ·
      refine k_iconst (v := (0 : Int32)) C (dk dX10_isShelf_0 7 rfl) (by decide) ?_
      exact k_zret E (dk dX10_isShelf_0 8 rfl) h
    ·
      refine k_iconst (v := (1 : Int32)) C (dk dX10_isShelf_0 5 rfl) (by decide) ?_
      refine k_goto (tgt := 15) C (dk dX10_isShelf_0 6 rfl) (by decide) ?_
      exact k_zret E (dk dX10_isShelf_0 8 rfl) h
set_option maxRecDepth 100000 in
set_option maxHeartbeats 4000000 in
theorem qX10_shelfAt (l : Launch) (g : G) (hg : gOK g) {a1 : Int32}  {s0 σe : St} {v : Nat} (h : mX10_shelfAt a1 s0 = some (v, σe)) : Mc l g yX10_shelfAt cX10_shelfAt 2 (some (.object "NineMilesOff$Shelf")) { frames := 0, cells := 0, slots := 0, locals := 0 } [.ref (g.2.2 0), .int a1] s0 (some (.ref (g.2.2 v))) σe := by
  refine k_enter hg pnRX10 rfl (Nat.le_of_ble_eq_true rfl) ?_
  intro WK E
  have C := kX_y E
  unfold mX10_shelfAt at h
  show WK 0 [(0, .ref (g.2.2 0)), (1, .int a1)] [] s0
  refine k_iload_n C (dk dX10_shelfAt_0 0 rfl) rfl 1 rfl ?_
  refine kl_J (P := (fun J22 => ∀ (s1 : St), J22 s1 = some (v, σe) → WK 22 [(0, .ref (g.2.2 0))] [] s1)) h (fun s1 h => ?_) (fun J22 hJ22 h => ?_)
  ·
    unfold mX10_shelfAt_22 at h
    refine k_aload_n C (dk dX10_shelfAt_0 12 rfl) rfl 0 rfl ?_
    refine k_getR (q := 18) (D := RX10) (T := TX10) (N := 9) (ci := 5) (k := 8) C iCX10 rfl (by decide) rfl (by decide) (iW1 _ (List.mem_of_getElem? (i := 4) rfl)) rfl (dk dX10_shelfAt_0 13 rfl) ?_
    exact k_aret E (dk dX10_shelfAt_0 14 rfl) h
  ·
    refine k_if_lt (tgt := 22) C (dk dX10_shelfAt_0 1 rfl) (by decide) h (fun h => ?_) (fun h => ?_)
    ·
      refine k_sub C [0] rfl ?_
      exact hJ22 _ h
    ·
      refine k_iload_n C (dk dX10_shelfAt_0 2 rfl) rfl 1 rfl ?_
      refine k_aload_n C (dk dX10_shelfAt_0 3 rfl) rfl 0 rfl ?_
      refine k_getR (q := 44) (D := RX10) (T := TX10) (N := 9) (ci := 5) (k := 7) C iCX10 rfl (by decide) rfl (by decide) (iW1 _ (List.mem_of_getElem? (i := 5) rfl)) rfl (dk dX10_shelfAt_0 4 rfl) ?_
      refine k_alenR (v := (8 : Int32)) C (by decide) (dk dX10_shelfAt_0 5 rfl) ?_
      refine k_icmp_ge (tgt := 22) C (dk dX10_shelfAt_0 6 rfl) (by decide) h (fun h => ?_) (fun h => ?_)
      ·
        refine k_sub C [0] rfl ?_
        exact hJ22 _ h
      ·
        refine k_aload_n C (dk dX10_shelfAt_0 7 rfl) rfl 0 rfl ?_
        refine k_getR (q := 44) (D := RX10) (T := TX10) (N := 9) (ci := 5) (k := 7) C iCX10 rfl (by decide) rfl (by decide) (iW1 _ (List.mem_of_getElem? (i := 5) rfl)) rfl (dk dX10_shelfAt_0 8 rfl) ?_
        refine k_iload_n C (dk dX10_shelfAt_0 9 rfl) rfl 1 rfl ?_
        refine k_aald C (dk dX10_shelfAt_0 10 rfl) h (fun n2 hn2 h => ?_)
        refine k_goto (tgt := 26) C (dk dX10_shelfAt_0 11 rfl) (by decide) ?_
        exact k_aret E (dk dX10_shelfAt_0 14 rfl) h
set_option maxRecDepth 100000 in
set_option maxHeartbeats 4000000 in
theorem qX10_refusalUnless (l : Launch) (g : G) (hg : gOK g) {a1 : Int32} {a2 : Int32}  {s0 σe : St} {v : Int32} (h : mX10_refusalUnless a1 a2 s0 = some (v, σe)) : Mc l g yX10_refusalUnless cX10_refusalUnless 3 (some .int) { frames := 1, cells := 0, slots := 0, locals := 21 } [.ref (g.2.2 0), .int a1, .int a2] s0 (some (.int v)) σe := by
  refine k_enter hg pnRX10 rfl (Nat.le_of_ble_eq_true rfl) ?_
  intro WK E
  have C := kX_y E
  unfold mX10_refusalUnless at h
  show WK 0 [(0, .ref (g.2.2 0)), (1, .int a1), (2, .int a2)] [] s0
  refine k_iload_n C (dk dX10_refusalUnless_0 0 rfl) rfl 1 rfl ?_
  refine cl2_k h (fun x2 s1 hc h => ?_)
  refine k_cs (As := [.int a1]) (st := []) C (qX10_isShelf l g hg hc) (iW4 _ (List.mem_of_getElem? (i := 5) rfl)) (iW4 _ (List.mem_of_getElem? (i := 6) rfl)) (iW0 _ (List.mem_of_getElem? (i := 2) rfl)) (iW4 _ (List.mem_of_getElem? (i := 7) rfl)) rfl rfl hdX10_isShelf (by decide) rfl rfl (Nat.le_of_ble_eq_true rfl) (dk dX10_refusalUnless_0 1 rfl) ?_
  refine k_if_ne (tgt := 9) C (dk dX10_refusalUnless_0 2 rfl) (by decide) h (fun h => ?_) (fun h => ?_)
  ·
    refine k_aload_n C (dk dX10_refusalUnless_0 5 rfl) rfl 0 rfl ?_
    refine k_iload_n C (dk dX10_refusalUnless_0 6 rfl) rfl 1 rfl ?_
    refine cl2_k h (fun n4 s3 hc h => ?_)
    refine k_cv (T := TX10) (N := 9) (ci := 5) (ob := 0) (As := [.int a1]) (st := []) C (qX10_shelfAt l g hg hc) (iW4 _ (List.mem_of_getElem? (i := 8) rfl)) (iW4 _ (List.mem_of_getElem? (i := 9) rfl)) (iW4 _ (List.mem_of_getElem? (i := 10) rfl)) (iW0 _ (List.mem_of_getElem? (i := 2) rfl)) (iW4 _ (List.mem_of_getElem? (i := 11) rfl)) rfl rfl hdX10_shelfAt (by decide) rfl (by decide) rfl rfl rfl (Nat.le_of_ble_eq_true rfl) (dk dX10_refusalUnless_0 7 rfl) ?_
    have hn4 : kd n4 = 3 := rX10_shelfAt hc
    refine k_getI (D := RX5) (T := TX5) (N := 6) (ci := 3) (k := 0) C iCX5 hn4 (by decide) rfl (by decide) (iW4 _ (List.mem_of_getElem? (i := 4) rfl)) rfl (dk dX10_refusalUnless_0 8 rfl) h (fun x5 h => ?_)
    refine k_if_ne (tgt := 23) C (dk dX10_refusalUnless_0 9 rfl) (by decide) h (fun h => ?_) (fun h => ?_)
    ·
      refine k_aload_n C (dk dX10_refusalUnless_0 12 rfl) rfl 0 rfl ?_
      refine k_iload_n C (dk dX10_refusalUnless_0 13 rfl) rfl 1 rfl ?_
      refine cl2_k h (fun n7 s6 hc h => ?_)
      refine k_cv (T := TX10) (N := 9) (ci := 5) (ob := 0) (As := [.int a1]) (st := []) C (qX10_shelfAt l g hg hc) (iW4 _ (List.mem_of_getElem? (i := 8) rfl)) (iW4 _ (List.mem_of_getElem? (i := 9) rfl)) (iW4 _ (List.mem_of_getElem? (i := 10) rfl)) (iW0 _ (List.mem_of_getElem? (i := 2) rfl)) (iW4 _ (List.mem_of_getElem? (i := 11) rfl)) rfl rfl hdX10_shelfAt (by decide) rfl (by decide) rfl rfl rfl (Nat.le_of_ble_eq_true rfl) (dk dX10_refusalUnless_0 14 rfl) ?_
      have hn7 : kd n7 = 3 := rX10_shelfAt hc
      refine k_getI (D := RX5) (T := TX5) (N := 6) (ci := 3) (k := 0) C iCX5 hn7 (by decide) rfl (by decide) (iW4 _ (List.mem_of_getElem? (i := 4) rfl)) rfl (dk dX10_refusalUnless_0 15 rfl) h (fun x8 h => ?_)
      refine k_iload_n C (dk dX10_refusalUnless_0 16 rfl) rfl 2 rfl ?_
      refine k_icmp_ne (tgt := 39) C (dk dX10_refusalUnless_0 17 rfl) (by decide) h (fun h => ?_) (fun h => ?_)
      ·
        refine k_bipush (v := (-12 : Int32)) C (dk dX10_refusalUnless_0 20 rfl) (by decide) ?_
        exact k_iret E (dk dX10_refusalUnless_0 21 rfl) h
      ·
        refine k_iconst (v := (0 : Int32)) C (dk dX10_refusalUnless_0 18 rfl) (by decide) ?_
        refine k_goto (tgt := 41) C (dk dX10_refusalUnless_0 19 rfl) (by decide) ?_
        exact k_iret E (dk dX10_refusalUnless_0 21 rfl) h
    ·
      refine k_bipush (v := (-11 : Int32)) C (dk dX10_refusalUnless_0 10 rfl) (by decide) ?_
      exact k_iret E (dk dX10_refusalUnless_0 11 rfl) h
  ·
    refine k_iconst (v := (-1 : Int32)) C (dk dX10_refusalUnless_0 3 rfl) (by decide) ?_
    exact k_iret E (dk dX10_refusalUnless_0 4 rfl) h
set_option maxRecDepth 100000 in
set_option maxHeartbeats 4000000 in
theorem qX10_refusalOfRow (l : Launch) (g : G) (hg : gOK g) {a1 : Int32}  {s0 σe : St} {v : Int32} (h : mX10_refusalOfRow a1 s0 = some (v, σe)) : Mc l g yX10_refusalOfRow cX10_refusalOfRow 2 (some .int) { frames := 2, cells := 0, slots := 0, locals := 43 } [.ref (g.2.2 0), .int a1] s0 (some (.int v)) σe := by
  refine k_enter hg pnRX10 rfl (Nat.le_of_ble_eq_true rfl) ?_
  intro WK E
  have C := kX_y E
  unfold mX10_refusalOfRow at h
  show WK 0 [(0, .ref (g.2.2 0)), (1, .int a1)] [] s0
  refine k_aload_n C (dk dX10_refusalOfRow_0 0 rfl) rfl 0 rfl ?_
  refine k_iload_n C (dk dX10_refusalOfRow_0 1 rfl) rfl 1 rfl ?_
  refine k_iconst (v := (2 : Int32)) C (dk dX10_refusalOfRow_0 2 rfl) (by decide) ?_
  refine cl2_k h (fun x2 s1 hc h => ?_)
  refine k_cv (T := TX10) (N := 9) (ci := 5) (ob := 0) (As := [.int a1, .int (2 : Int32)]) (st := []) C (qX10_refusalUnless l g hg hc) (iW4 _ (List.mem_of_getElem? (i := 0) rfl)) (iW4 _ (List.mem_of_getElem? (i := 1) rfl)) (iW4 _ (List.mem_of_getElem? (i := 2) rfl)) (iW0 _ (List.mem_of_getElem? (i := 2) rfl)) (iW4 _ (List.mem_of_getElem? (i := 3) rfl)) rfl rfl hdX10_refusalUnless (by decide) rfl (by decide) rfl rfl rfl (Nat.le_of_ble_eq_true rfl) (dk dX10_refusalOfRow_0 3 rfl) ?_
  exact k_iret E (dk dX10_refusalOfRow_0 4 rfl) h
set_option maxRecDepth 100000 in
set_option maxHeartbeats 4000000 in
theorem qX10_land (l : Launch) (g : G) (hg : gOK g) {a1 : Int32}  {s0 σe : St} {v : Int32} (h : mX10_land a1 s0 = some (v, σe)) : Mc l g yX10_land cX10_land 5 (some .int) { frames := 7, cells := 0, slots := 0, locals := 159 } [.ref (g.2.2 0), .int a1] s0 (some (.int v)) σe := by
  refine k_enter hg pnRX10 rfl (Nat.le_of_ble_eq_true rfl) ?_
  intro WK E
  have C := kX_y E
  unfold mX10_land at h
  show WK 0 [(0, .ref (g.2.2 0)), (1, .int a1)] [] s0
  refine k_aload_n C (dk dX10_land_0 0 rfl) rfl 0 rfl ?_
  refine k_iload_n C (dk dX10_land_0 1 rfl) rfl 1 rfl ?_
  refine cl2_k h (fun x2 s1 hc h => ?_)
  refine k_cv (T := TX10) (N := 9) (ci := 5) (ob := 0) (As := [.int a1]) (st := []) C (qX10_refusalOfRow l g hg hc) (iW3 _ (List.mem_of_getElem? (i := 26) rfl)) (iW3 _ (List.mem_of_getElem? (i := 27) rfl)) (iW3 _ (List.mem_of_getElem? (i := 28) rfl)) (iW0 _ (List.mem_of_getElem? (i := 2) rfl)) (iW3 _ (List.mem_of_getElem? (i := 29) rfl)) rfl rfl hdX10_refusalOfRow (by decide) rfl (by decide) rfl rfl rfl (Nat.le_of_ble_eq_true rfl) (dk dX10_land_0 2 rfl) ?_
  refine k_istore_n (lv' := [(2, .int x2), (0, .ref (g.2.2 0)), (1, .int a1)]) C (dk dX10_land_0 3 rfl) rfl (by decide) rfl ?_
  refine k_iload_n C (dk dX10_land_0 4 rfl) rfl 0 rfl ?_
  refine k_if_eq (tgt := 12) C (dk dX10_land_0 5 rfl) (by decide) h (fun h => ?_) (fun h => ?_)
  ·
    refine k_aload_n C (dk dX10_land_0 8 rfl) rfl 1 rfl ?_
    refine k_iload_n C (dk dX10_land_0 9 rfl) rfl 2 rfl ?_
    refine cl2_k h (fun n4 s3 hc h => ?_)
    refine k_cv (T := TX10) (N := 9) (ci := 5) (ob := 0) (As := [.int a1]) (st := []) C (qX10_shelfAt l g hg hc) (iW4 _ (List.mem_of_getElem? (i := 8) rfl)) (iW4 _ (List.mem_of_getElem? (i := 9) rfl)) (iW4 _ (List.mem_of_getElem? (i := 10) rfl)) (iW0 _ (List.mem_of_getElem? (i := 2) rfl)) (iW4 _ (List.mem_of_getElem? (i := 11) rfl)) rfl rfl hdX10_shelfAt (by decide) rfl (by decide) rfl rfl rfl (Nat.le_of_ble_eq_true rfl) (dk dX10_land_0 10 rfl) ?_
    have hn4 : kd n4 = 3 := rX10_shelfAt hc
    refine k_astore_n (lv' := [(3, .ref (g.2.2 n4)), (2, .int x2), (0, .ref (g.2.2 0)), (1, .int a1)]) C (dk dX10_land_0 11 rfl) rfl (by decide) rfl ?_
    refine k_aload_n C (dk dX10_land_0 12 rfl) rfl 0 rfl ?_
    refine k_getI (D := RX5) (T := TX5) (N := 6) (ci := 3) (k := 3) C iCX5 hn4 (by decide) rfl (by decide) (iW3 _ (List.mem_of_getElem? (i := 25) rfl)) rfl (dk dX10_land_0 13 rfl) h (fun x5 h => ?_)
    refine k_if_eq (tgt := 28) C (dk dX10_land_0 14 rfl) (by decide) h (fun h => ?_) (fun h => ?_)
    ·
      refine k_aload_n C (dk dX10_land_0 17 rfl) rfl 0 rfl ?_
      refine cl2_k h (fun x7 s6 hc h => ?_)
      refine k_cs (As := [.ref (g.2.2 n4)]) (st := []) C (qX8_firstWrongByte l g hg hn4 hc) (iW4 _ (List.mem_of_getElem? (i := 12) rfl)) (iW4 _ (List.mem_of_getElem? (i := 13) rfl)) (iW4 _ (List.mem_of_getElem? (i := 14) rfl)) (iW4 _ (List.mem_of_getElem? (i := 15) rfl)) rfl rfl hdX8_firstWrongByte (by decide) rfl rfl (Nat.le_of_ble_eq_true rfl) (dk dX10_land_0 18 rfl) ?_
      refine k_istore (lv' := [(4, .int x7), (3, .ref (g.2.2 n4)), (2, .int x2), (0, .ref (g.2.2 0)), (1, .int a1)]) C (dk dX10_land_0 19 rfl) (by decide) rfl ?_
      refine k_iload C (dk dX10_land_0 20 rfl) 0 rfl ?_
      refine k_bipush (v := (-4 : Int32)) C (dk dX10_land_0 21 rfl) (by decide) ?_
      refine k_icmp_eq (tgt := 48) C (dk dX10_land_0 22 rfl) (by decide) h (fun h => ?_) (fun h => ?_)
      ·
        refine k_aload_n C (dk dX10_land_0 27 rfl) rfl 3 rfl ?_
        refine k_getR (q := 3) (D := RX10) (T := TX10) (N := 9) (ci := 5) (k := 2) C iCX10 rfl (by decide) rfl (by decide) (iW0 _ (List.mem_of_getElem? (i := 18) rfl)) rfl (dk dX10_land_0 28 rfl) ?_
        refine k_aload_n C (dk dX10_land_0 29 rfl) rfl 3 rfl ?_
        refine k_getR (q := 1) (D := RX10) (T := TX10) (N := 9) (ci := 5) (k := 0) C iCX10 rfl (by decide) rfl (by decide) (iW0 _ (List.mem_of_getElem? (i := 16) rfl)) rfl (dk dX10_land_0 30 rfl) ?_
        refine cl1_k h (fun s8 hc h => ?_)
        refine k_cv (T := TX3) (N := 10) (ci := 1) (ob := 3) (As := [.ref (g.2.2 1)]) (st := []) C (qX3_becomes l g hg rfl rfl hc) (iW4 _ (List.mem_of_getElem? (i := 27) rfl)) (iW4 _ (List.mem_of_getElem? (i := 28) rfl)) (iW4 _ (List.mem_of_getElem? (i := 29) rfl)) (iW0 _ (List.mem_of_getElem? (i := 15) rfl)) (iW5 _ (List.mem_of_getElem? (i := 0) rfl)) rfl rfl hdX3_becomes (by decide) rfl (by decide) rfl rfl rfl (Nat.le_of_ble_eq_true rfl) (dk dX10_land_0 31 rfl) ?_
        refine k_aload_n C (dk dX10_land_1 0 rfl) rfl 1 rfl ?_
        refine k_aload_n C (dk dX10_land_1 1 rfl) rfl 3 rfl ?_
        refine k_getR (q := 3) (D := RX10) (T := TX10) (N := 9) (ci := 5) (k := 2) C iCX10 rfl (by decide) rfl (by decide) (iW0 _ (List.mem_of_getElem? (i := 18) rfl)) rfl (dk dX10_land_1 2 rfl) ?_
        refine cl2_k h (fun x10 s9 hc h => ?_)
        refine k_cs (As := [.ref (g.2.2 n4), .ref (g.2.2 3)]) (st := []) C (qX8_firstNotDone l g hg hn4 rfl hc) (iW5 _ (List.mem_of_getElem? (i := 1) rfl)) (iW5 _ (List.mem_of_getElem? (i := 2) rfl)) (iW4 _ (List.mem_of_getElem? (i := 14) rfl)) (iW5 _ (List.mem_of_getElem? (i := 3) rfl)) rfl rfl hdX8_firstNotDone (by decide) rfl rfl (Nat.le_of_ble_eq_true rfl) (dk dX10_land_1 3 rfl) ?_
        refine k_istore (lv' := [(4, .int x10), (3, .ref (g.2.2 n4)), (2, .int x2), (0, .ref (g.2.2 0)), (1, .int a1)]) C (dk dX10_land_1 4 rfl) (by decide) rfl ?_
        refine k_iload C (dk dX10_land_1 5 rfl) 0 rfl ?_
        refine k_bipush (v := (-4 : Int32)) C (dk dX10_land_1 6 rfl) (by decide) ?_
        refine k_icmp_eq (tgt := 83) C (dk dX10_land_1 7 rfl) (by decide) h (fun h => ?_) (fun h => ?_)
        ·
          refine k_aload_n C (dk dX10_land_1 12 rfl) rfl 3 rfl ?_
          refine k_getR (q := 1) (D := RX10) (T := TX10) (N := 9) (ci := 5) (k := 0) C iCX10 rfl (by decide) rfl (by decide) (iW0 _ (List.mem_of_getElem? (i := 16) rfl)) rfl (dk dX10_land_1 13 rfl) ?_
          refine k_aload_n C (dk dX10_land_1 14 rfl) rfl 3 rfl ?_
          refine k_getR (q := 3) (D := RX10) (T := TX10) (N := 9) (ci := 5) (k := 2) C iCX10 rfl (by decide) rfl (by decide) (iW0 _ (List.mem_of_getElem? (i := 18) rfl)) rfl (dk dX10_land_1 15 rfl) ?_
          refine cl1_k h (fun s11 hc h => ?_)
          refine k_cv (T := TX3) (N := 10) (ci := 1) (ob := 1) (As := [.ref (g.2.2 3)]) (st := []) C (qX3_becomes l g hg rfl rfl hc) (iW4 _ (List.mem_of_getElem? (i := 27) rfl)) (iW4 _ (List.mem_of_getElem? (i := 28) rfl)) (iW4 _ (List.mem_of_getElem? (i := 29) rfl)) (iW0 _ (List.mem_of_getElem? (i := 15) rfl)) (iW5 _ (List.mem_of_getElem? (i := 0) rfl)) rfl rfl hdX3_becomes (by decide) rfl (by decide) rfl rfl rfl (Nat.le_of_ble_eq_true rfl) (dk dX10_land_1 16 rfl) ?_
          refine k_aload_n C (dk dX10_land_1 17 rfl) rfl 1 rfl ?_
          refine cl2_k h (fun x13 s12 hc h => ?_)
          refine k_cs (As := [.ref (g.2.2 n4)]) (st := []) C (qX8_statementsOf l g hg hn4 hc) (iW8 _ (List.mem_of_getElem? (i := 0) rfl)) (iW8 _ (List.mem_of_getElem? (i := 1) rfl)) (iW4 _ (List.mem_of_getElem? (i := 14) rfl)) (iW8 _ (List.mem_of_getElem? (i := 2) rfl)) rfl rfl hdX8_statementsOf (by decide) rfl rfl (Nat.le_of_ble_eq_true rfl) (dk dX10_land_1 18 rfl) ?_
          exact k_iret E (dk dX10_land_1 19 rfl) h
        ·
          refine k_sipush (v := (-2000 : Int32)) C (dk dX10_land_1 8 rfl) (by decide) ?_
          refine k_iload C (dk dX10_land_1 9 rfl) 0 rfl ?_
          refine k_isub C (dk dX10_land_1 10 rfl) ?_
          exact k_iret E (dk dX10_land_1 11 rfl) h
      ·
        refine k_sipush (v := (-1000 : Int32)) C (dk dX10_land_0 23 rfl) (by decide) ?_
        refine k_iload C (dk dX10_land_0 24 rfl) 0 rfl ?_
        refine k_isub C (dk dX10_land_0 25 rfl) ?_
        exact k_iret E (dk dX10_land_0 26 rfl) h
    ·
      refine k_bipush (v := (-12 : Int32)) C (dk dX10_land_0 15 rfl) (by decide) ?_
      exact k_iret E (dk dX10_land_0 16 rfl) h
  ·
    refine k_iload_n C (dk dX10_land_0 6 rfl) rfl 0 rfl ?_
    exact k_iret E (dk dX10_land_0 7 rfl) h
set_option maxRecDepth 100000 in
set_option maxHeartbeats 4000000 in
theorem qX10_ground (l : Launch) (g : G) (hg : gOK g) {a1 : Int32} {a2 : Int32}  {s0 σe : St} {v : Int32} (h : mX10_ground a1 a2 s0 = some (v, σe)) : Mc l g yX10_ground cX10_ground 3 (some .int) { frames := 2, cells := 0, slots := 0, locals := 43 } [.ref (g.2.2 0), .int a1, .int a2] s0 (some (.int v)) σe := by
  refine k_enter hg pnRX10 rfl (Nat.le_of_ble_eq_true rfl) ?_
  intro WK E
  have C := kX_y E
  unfold mX10_ground at h
  show WK 0 [(0, .ref (g.2.2 0)), (1, .int a1), (2, .int a2)] [] s0
  refine k_iload_n C (dk dX10_ground_0 0 rfl) rfl 1 rfl ?_
  refine k_i2l C (dk dX10_ground_0 1 rfl) ?_
  refine cl2_k h (fun x2 s1 hc h => ?_)
  refine k_cs (As := [.long a1.toInt64]) (st := []) C (qX10_isCell l g hg hc) (iW10 _ (List.mem_of_getElem? (i := 29) rfl)) (iW5 _ (List.mem_of_getElem? (i := 20) rfl)) (iW0 _ (List.mem_of_getElem? (i := 2) rfl)) (iW5 _ (List.mem_of_getElem? (i := 21) rfl)) rfl rfl hdX10_isCell (by decide) rfl rfl (Nat.le_of_ble_eq_true rfl) (dk dX10_ground_0 2 rfl) ?_
  refine k_if_ne (tgt := 10) C (dk dX10_ground_0 3 rfl) (by decide) h (fun h => ?_) (fun h => ?_)
  ·
    refine k_iload_n C (dk dX10_ground_0 6 rfl) rfl 2 rfl ?_
    by_cases e0 : a2 = (0 : Int32)
    · replace h := (if_pos e0).symm.trans h
      refine k_tsIn (q := (0 : Int32)) (tgt := 44) C (dk dX10_ground_0 7 rfl) (by decide) (by decide) rfl (by decide) e0 ?_
      refine k_aload_n C (dk dX10_ground_0 8 rfl) rfl 0 rfl ?_
      refine k_getR (q := 1) (D := RX10) (T := TX10) (N := 9) (ci := 5) (k := 0) C iCX10 rfl (by decide) rfl (by decide) (iW0 _ (List.mem_of_getElem? (i := 16) rfl)) rfl (dk dX10_ground_0 9 rfl) ?_
      refine k_iload_n C (dk dX10_ground_0 10 rfl) rfl 1 rfl ?_
      refine cl2_k h (fun x4 s3 hc h => ?_)
      refine k_cv (T := TX3) (N := 10) (ci := 1) (ob := 1) (As := [.int a1]) (st := []) C (qX3_kindAt l g hg rfl hc) (iW11 _ (List.mem_of_getElem? (i := 0) rfl)) (iW11 _ (List.mem_of_getElem? (i := 1) rfl)) (iW11 _ (List.mem_of_getElem? (i := 2) rfl)) (iW0 _ (List.mem_of_getElem? (i := 15) rfl)) (iW11 _ (List.mem_of_getElem? (i := 3) rfl)) rfl rfl hdX3_kindAt (by decide) rfl (by decide) rfl rfl rfl (Nat.le_of_ble_eq_true rfl) (dk dX10_ground_0 11 rfl) ?_
      exact k_iret E (dk dX10_ground_0 12 rfl) h
    replace h := (if_neg e0).symm.trans h
    by_cases e1 : a2 = (1 : Int32)
    · replace h := (if_pos e1).symm.trans h
      refine k_tsIn (q := (1 : Int32)) (tgt := 53) C (dk dX10_ground_0 7 rfl) (by decide) (by decide) rfl (by decide) e1 ?_
      refine k_aload_n C (dk dX10_ground_0 13 rfl) rfl 0 rfl ?_
      refine k_getR (q := 1) (D := RX10) (T := TX10) (N := 9) (ci := 5) (k := 0) C iCX10 rfl (by decide) rfl (by decide) (iW0 _ (List.mem_of_getElem? (i := 16) rfl)) rfl (dk dX10_ground_0 14 rfl) ?_
      refine k_iload_n C (dk dX10_ground_0 15 rfl) rfl 1 rfl ?_
      refine cl2_k h (fun x6 s5 hc h => ?_)
      refine k_cv (T := TX3) (N := 10) (ci := 1) (ob := 1) (As := [.int a1]) (st := []) C (qX3_figureAt l g hg rfl hc) (iW11 _ (List.mem_of_getElem? (i := 4) rfl)) (iW11 _ (List.mem_of_getElem? (i := 5) rfl)) (iW11 _ (List.mem_of_getElem? (i := 6) rfl)) (iW0 _ (List.mem_of_getElem? (i := 15) rfl)) (iW11 _ (List.mem_of_getElem? (i := 7) rfl)) rfl rfl hdX3_figureAt (by decide) rfl (by decide) rfl rfl rfl (Nat.le_of_ble_eq_true rfl) (dk dX10_ground_0 16 rfl) ?_
      exact k_iret E (dk dX10_ground_0 17 rfl) h
    replace h := (if_neg e1).symm.trans h
    by_cases e2 : a2 = (2 : Int32)
    · replace h := (if_pos e2).symm.trans h
      refine k_tsIn (q := (2 : Int32)) (tgt := 62) C (dk dX10_ground_0 7 rfl) (by decide) (by decide) rfl (by decide) e2 ?_
      refine k_aload_n C (dk dX10_ground_0 18 rfl) rfl 0 rfl ?_
      refine k_getR (q := 1) (D := RX10) (T := TX10) (N := 9) (ci := 5) (k := 0) C iCX10 rfl (by decide) rfl (by decide) (iW0 _ (List.mem_of_getElem? (i := 16) rfl)) rfl (dk dX10_ground_0 19 rfl) ?_
      refine k_iload_n C (dk dX10_ground_0 20 rfl) rfl 1 rfl ?_
      refine cl2_k h (fun x8 s7 hc h => ?_)
      refine k_cv (T := TX3) (N := 10) (ci := 1) (ob := 1) (As := [.int a1]) (st := []) C (qX3_heightAt l g hg rfl hc) (iW11 _ (List.mem_of_getElem? (i := 8) rfl)) (iW7 _ (List.mem_of_getElem? (i := 24) rfl)) (iW7 _ (List.mem_of_getElem? (i := 25) rfl)) (iW0 _ (List.mem_of_getElem? (i := 15) rfl)) (iW7 _ (List.mem_of_getElem? (i := 26) rfl)) rfl rfl hdX3_heightAt (by decide) rfl (by decide) rfl rfl rfl (Nat.le_of_ble_eq_true rfl) (dk dX10_ground_0 21 rfl) ?_
      exact k_iret E (dk dX10_ground_0 22 rfl) h
    replace h := (if_neg e2).symm.trans h
    by_cases e3 : a2 = (3 : Int32)
    · replace h := (if_pos e3).symm.trans h
      refine k_tsIn (q := (3 : Int32)) (tgt := 71) C (dk dX10_ground_0 7 rfl) (by decide) (by decide) rfl (by decide) e3 ?_
      refine k_aload_n C (dk dX10_ground_0 23 rfl) rfl 0 rfl ?_
      refine k_getR (q := 1) (D := RX10) (T := TX10) (N := 9) (ci := 5) (k := 0) C iCX10 rfl (by decide) rfl (by decide) (iW0 _ (List.mem_of_getElem? (i := 16) rfl)) rfl (dk dX10_ground_0 24 rfl) ?_
      refine k_iload_n C (dk dX10_ground_0 25 rfl) rfl 1 rfl ?_
      refine cl2_k h (fun x10 s9 hc h => ?_)
      refine k_cv (T := TX3) (N := 10) (ci := 1) (ob := 1) (As := [.int a1]) (st := []) C (qX3_isOpen l g hg rfl hc) (iW11 _ (List.mem_of_getElem? (i := 9) rfl)) (iW6 _ (List.mem_of_getElem? (i := 1) rfl)) (iW6 _ (List.mem_of_getElem? (i := 2) rfl)) (iW0 _ (List.mem_of_getElem? (i := 15) rfl)) (iW6 _ (List.mem_of_getElem? (i := 3) rfl)) rfl rfl hdX3_isOpen (by decide) rfl (by decide) rfl rfl rfl (Nat.le_of_ble_eq_true rfl) (dk dX10_ground_0 26 rfl) ?_
      refine k_if_eq (tgt := 86) C (dk dX10_ground_0 27 rfl) (by decide) h (fun h => ?_) (fun h => ?_)
      ·
        refine k_iconst (v := (0 : Int32)) C (dk dX10_ground_0 30 rfl) (by decide) ?_
        exact k_iret E (dk dX10_ground_0 31 rfl) h
      ·
        refine k_iconst (v := (1 : Int32)) C (dk dX10_ground_0 28 rfl) (by decide) ?_
        refine k_goto (tgt := 87) C (dk dX10_ground_0 29 rfl) (by decide) ?_
        exact k_iret E (dk dX10_ground_0 31 rfl) h
    replace h := (if_neg e3).symm.trans h
    by_cases e4 : a2 = (4 : Int32)
    · replace h := (if_pos e4).symm.trans h
      refine k_tsIn (q := (4 : Int32)) (tgt := 88) C (dk dX10_ground_0 7 rfl) (by decide) (by decide) rfl (by decide) e4 ?_
      refine k_aload_n C (dk dX10_ground_1 0 rfl) rfl 0 rfl ?_
      refine k_getR (q := 1) (D := RX10) (T := TX10) (N := 9) (ci := 5) (k := 0) C iCX10 rfl (by decide) rfl (by decide) (iW0 _ (List.mem_of_getElem? (i := 16) rfl)) rfl (dk dX10_ground_1 1 rfl) ?_
      refine k_iload_n C (dk dX10_ground_1 2 rfl) rfl 1 rfl ?_
      refine cl2_k h (fun x12 s11 hc h => ?_)
      refine k_cv (T := TX3) (N := 10) (ci := 1) (ob := 1) (As := [.int a1]) (st := []) C (qX3_chanceAt l g hg rfl hc) (iW11 _ (List.mem_of_getElem? (i := 10) rfl)) (iW11 _ (List.mem_of_getElem? (i := 11) rfl)) (iW11 _ (List.mem_of_getElem? (i := 12) rfl)) (iW0 _ (List.mem_of_getElem? (i := 15) rfl)) (iW11 _ (List.mem_of_getElem? (i := 13) rfl)) rfl rfl hdX3_chanceAt (by decide) rfl (by decide) rfl rfl rfl (Nat.le_of_ble_eq_true rfl) (dk dX10_ground_1 3 rfl) ?_
      exact k_iret E (dk dX10_ground_1 4 rfl) h
    replace h := (if_neg e4).symm.trans h
    refine k_tsOut (tgt := 97) C (dk dX10_ground_0 7 rfl) (by have n0 : a2.toInt ≠ 0 := fun q => e0 (Int32.toInt_inj.mp (q.trans (by decide))); have n1 : a2.toInt ≠ 1 := fun q => e1 (Int32.toInt_inj.mp (q.trans (by decide))); have n2 : a2.toInt ≠ 2 := fun q => e2 (Int32.toInt_inj.mp (q.trans (by decide))); have n3 : a2.toInt ≠ 3 := fun q => e3 (Int32.toInt_inj.mp (q.trans (by decide))); have n4 : a2.toInt ≠ 4 := fun q => e4 (Int32.toInt_inj.mp (q.trans (by decide))); omega) (by decide) ?_
    refine k_iconst (v := (-1 : Int32)) C (dk dX10_ground_1 5 rfl) (by decide) ?_
    exact k_iret E (dk dX10_ground_1 6 rfl) h
  ·
    refine k_iconst (v := (-1 : Int32)) C (dk dX10_ground_0 4 rfl) (by decide) ?_
    exact k_iret E (dk dX10_ground_0 5 rfl) h
set_option maxRecDepth 100000 in
set_option maxHeartbeats 4000000 in
theorem qX10_refusalOfGround (l : Launch) (g : G) (hg : gOK g) {a1 : Int32}  {s0 σe : St} {v : Int32} (h : mX10_refusalOfGround a1 s0 = some (v, σe)) : Mc l g yX10_refusalOfGround cX10_refusalOfGround 2 (some .int) { frames := 2, cells := 0, slots := 0, locals := 43 } [.ref (g.2.2 0), .int a1] s0 (some (.int v)) σe := by
  refine k_enter hg pnRX10 rfl (Nat.le_of_ble_eq_true rfl) ?_
  intro WK E
  have C := kX_y E
  unfold mX10_refusalOfGround at h
  show WK 0 [(0, .ref (g.2.2 0)), (1, .int a1)] [] s0
  refine k_aload_n C (dk dX10_refusalOfGround_0 0 rfl) rfl 0 rfl ?_
  refine k_iload_n C (dk dX10_refusalOfGround_0 1 rfl) rfl 1 rfl ?_
  refine k_iconst (v := (1 : Int32)) C (dk dX10_refusalOfGround_0 2 rfl) (by decide) ?_
  refine cl2_k h (fun x2 s1 hc h => ?_)
  refine k_cv (T := TX10) (N := 9) (ci := 5) (ob := 0) (As := [.int a1, .int (1 : Int32)]) (st := []) C (qX10_refusalUnless l g hg hc) (iW4 _ (List.mem_of_getElem? (i := 0) rfl)) (iW4 _ (List.mem_of_getElem? (i := 1) rfl)) (iW4 _ (List.mem_of_getElem? (i := 2) rfl)) (iW0 _ (List.mem_of_getElem? (i := 2) rfl)) (iW4 _ (List.mem_of_getElem? (i := 3) rfl)) rfl rfl hdX10_refusalUnless (by decide) rfl (by decide) rfl rfl rfl (Nat.le_of_ble_eq_true rfl) (dk dX10_refusalOfGround_0 3 rfl) ?_
  exact k_iret E (dk dX10_refusalOfGround_0 4 rfl) h
set_option maxRecDepth 100000 in
set_option maxHeartbeats 4000000 in
theorem qX10_lays (l : Launch) (g : G) (hg : gOK g) {a1 : Int32} {a2 : Int32}  {s0 σe : St} {v : Int32} (h : mX10_lays a1 a2 s0 = some (v, σe)) : Mc l g yX10_lays cX10_lays 5 (some .int) { frames := 3, cells := 0, slots := 0, locals := 64 } [.ref (g.2.2 0), .int a1, .int a2] s0 (some (.int v)) σe := by
  refine k_enter hg pnRX10 rfl (Nat.le_of_ble_eq_true rfl) ?_
  intro WK E
  have C := kX_y E
  unfold mX10_lays at h
  show WK 0 [(0, .ref (g.2.2 0)), (1, .int a1), (2, .int a2)] [] s0
  refine k_iload_n C (dk dX10_lays_0 0 rfl) rfl 2 rfl ?_
  refine k_i2l C (dk dX10_lays_0 1 rfl) ?_
  refine cl2_k h (fun x2 s1 hc h => ?_)
  refine k_cs (As := [.long a2.toInt64]) (st := []) C (qX10_isCell l g hg hc) (iW10 _ (List.mem_of_getElem? (i := 29) rfl)) (iW5 _ (List.mem_of_getElem? (i := 20) rfl)) (iW0 _ (List.mem_of_getElem? (i := 2) rfl)) (iW5 _ (List.mem_of_getElem? (i := 21) rfl)) rfl rfl hdX10_isCell (by decide) rfl rfl (Nat.le_of_ble_eq_true rfl) (dk dX10_lays_0 2 rfl) ?_
  refine kl_J (P := (fun J17 => ∀ (y3 : Int32) (s4 : St), J17 y3 s4 = some (v, σe) → WK 17 [(0, .ref (g.2.2 0)), (1, .int a1), (2, .int a2)] [.int y3] s4)) h (fun y3 s4 h => ?_) (fun J17 hJ17 h => ?_)
  ·
    unfold mX10_lays_17 at h
    refine k_istore_n (lv' := [(3, .int y3), (0, .ref (g.2.2 0)), (1, .int a1), (2, .int a2)]) C (dk dX10_lays_0 9 rfl) rfl (by decide) rfl ?_
    refine k_iload_n C (dk dX10_lays_0 10 rfl) rfl 0 rfl ?_
    refine k_if_eq (tgt := 24) C (dk dX10_lays_0 11 rfl) (by decide) h (fun h => ?_) (fun h => ?_)
    ·
      refine k_aload_n C (dk dX10_lays_0 14 rfl) rfl 1 rfl ?_
      refine k_getR (q := 1) (D := RX10) (T := TX10) (N := 9) (ci := 5) (k := 0) C iCX10 rfl (by decide) rfl (by decide) (iW0 _ (List.mem_of_getElem? (i := 16) rfl)) rfl (dk dX10_lays_0 15 rfl) ?_
      refine k_iload_n C (dk dX10_lays_0 16 rfl) rfl 3 rfl ?_
      refine cl2_k h (fun x6 s5 hc h => ?_)
      refine k_cv (T := TX3) (N := 10) (ci := 1) (ob := 1) (As := [.int a2]) (st := []) C (qX3_kindAt l g hg rfl hc) (iW11 _ (List.mem_of_getElem? (i := 0) rfl)) (iW11 _ (List.mem_of_getElem? (i := 1) rfl)) (iW11 _ (List.mem_of_getElem? (i := 2) rfl)) (iW0 _ (List.mem_of_getElem? (i := 15) rfl)) (iW11 _ (List.mem_of_getElem? (i := 3) rfl)) rfl rfl hdX3_kindAt (by decide) rfl (by decide) rfl rfl rfl (Nat.le_of_ble_eq_true rfl) (dk dX10_lays_0 17 rfl) ?_
      refine k_istore (lv' := [(4, .int x6), (3, .int y3), (0, .ref (g.2.2 0)), (1, .int a1), (2, .int a2)]) C (dk dX10_lays_0 18 rfl) (by decide) rfl ?_
      refine k_aload_n C (dk dX10_lays_0 19 rfl) rfl 2 rfl ?_
      refine k_getR (q := 1) (D := RX10) (T := TX10) (N := 9) (ci := 5) (k := 0) C iCX10 rfl (by decide) rfl (by decide) (iW0 _ (List.mem_of_getElem? (i := 16) rfl)) rfl (dk dX10_lays_0 20 rfl) ?_
      refine k_iload_n C (dk dX10_lays_0 21 rfl) rfl 4 rfl ?_
      refine k_aload_n C (dk dX10_lays_0 22 rfl) rfl 2 rfl ?_
      refine k_iload_n C (dk dX10_lays_0 23 rfl) rfl 3 rfl ?_
      refine cl2_k h (fun n8 s7 hc h => ?_)
      refine k_cv (T := TX10) (N := 9) (ci := 5) (ob := 0) (As := [.int a1]) (st := [.int a2, .ref (g.2.2 1)]) C (qX10_shelfAt l g hg hc) (iW4 _ (List.mem_of_getElem? (i := 8) rfl)) (iW4 _ (List.mem_of_getElem? (i := 9) rfl)) (iW4 _ (List.mem_of_getElem? (i := 10) rfl)) (iW0 _ (List.mem_of_getElem? (i := 2) rfl)) (iW4 _ (List.mem_of_getElem? (i := 11) rfl)) rfl rfl hdX10_shelfAt (by decide) rfl (by decide) rfl rfl rfl (Nat.le_of_ble_eq_true rfl) (dk dX10_lays_0 24 rfl) ?_
      have hn8 : kd n8 = 3 := rX10_shelfAt hc
      refine k_getI (D := RX5) (T := TX5) (N := 6) (ci := 3) (k := 1) C iCX5 hn8 (by decide) rfl (by decide) (iW12 _ (List.mem_of_getElem? (i := 3) rfl)) rfl (dk dX10_lays_0 25 rfl) h (fun x9 h => ?_)
      refine k_aload_n C (dk dX10_lays_0 26 rfl) rfl 2 rfl ?_
      refine k_iload_n C (dk dX10_lays_0 27 rfl) rfl 3 rfl ?_
      refine cl2_k h (fun n11 s10 hc h => ?_)
      refine k_cv (T := TX10) (N := 9) (ci := 5) (ob := 0) (As := [.int a1]) (st := [.int x9, .int a2, .ref (g.2.2 1)]) C (qX10_shelfAt l g hg hc) (iW4 _ (List.mem_of_getElem? (i := 8) rfl)) (iW4 _ (List.mem_of_getElem? (i := 9) rfl)) (iW4 _ (List.mem_of_getElem? (i := 10) rfl)) (iW0 _ (List.mem_of_getElem? (i := 2) rfl)) (iW4 _ (List.mem_of_getElem? (i := 11) rfl)) rfl rfl hdX10_shelfAt (by decide) rfl (by decide) rfl rfl rfl (Nat.le_of_ble_eq_true rfl) (dk dX10_lays_0 28 rfl) ?_
      have hn11 : kd n11 = 3 := rX10_shelfAt hc
      refine k_getI (D := RX5) (T := TX5) (N := 6) (ci := 3) (k := 2) C iCX5 hn11 (by decide) rfl (by decide) (iW12 _ (List.mem_of_getElem? (i := 4) rfl)) rfl (dk dX10_lays_0 29 rfl) h (fun x12 h => ?_)
      refine cl1_k h (fun s13 hc h => ?_)
      refine k_cv (T := TX3) (N := 10) (ci := 1) (ob := 1) (As := [.int a2, .int x9, .int x12]) (st := []) C (qX3_layAt l g hg rfl hc) (iW12 _ (List.mem_of_getElem? (i := 9) rfl)) (iW5 _ (List.mem_of_getElem? (i := 24) rfl)) (iW5 _ (List.mem_of_getElem? (i := 25) rfl)) (iW0 _ (List.mem_of_getElem? (i := 15) rfl)) (iW5 _ (List.mem_of_getElem? (i := 26) rfl)) rfl rfl hdX3_layAt (by decide) rfl (by decide) rfl rfl rfl (Nat.le_of_ble_eq_true rfl) (dk dX10_lays_0 30 rfl) ?_
      refine k_iload C (dk dX10_lays_0 31 rfl) 0 rfl ?_
      exact k_iret E (dk dX10_lays_1 0 rfl) h
    ·
      refine k_iload_n C (dk dX10_lays_0 12 rfl) rfl 0 rfl ?_
      exact k_iret E (dk dX10_lays_0 13 rfl) h
  ·
    refine k_if_eq (tgt := 16) C (dk dX10_lays_0 3 rfl) (by decide) h (fun h => ?_) (fun h => ?_)
    ·
      refine k_iconst (v := (-1 : Int32)) C (dk dX10_lays_0 8 rfl) (by decide) ?_
      exact hJ17 _ _ h
    ·
      refine k_aload_n C (dk dX10_lays_0 4 rfl) rfl 0 rfl ?_
      refine k_iload_n C (dk dX10_lays_0 5 rfl) rfl 1 rfl ?_
      refine cl2_k h (fun x15 s14 hc h => ?_)
      refine k_cv (T := TX10) (N := 9) (ci := 5) (ob := 0) (As := [.int a1]) (st := []) C (qX10_refusalOfGround l g hg hc) (iW12 _ (List.mem_of_getElem? (i := 5) rfl)) (iW12 _ (List.mem_of_getElem? (i := 6) rfl)) (iW12 _ (List.mem_of_getElem? (i := 7) rfl)) (iW0 _ (List.mem_of_getElem? (i := 2) rfl)) (iW12 _ (List.mem_of_getElem? (i := 8) rfl)) rfl rfl hdX10_refusalOfGround (by decide) rfl (by decide) rfl rfl rfl (Nat.le_of_ble_eq_true rfl) (dk dX10_lays_0 6 rfl) ?_
      refine k_goto (tgt := 17) C (dk dX10_lays_0 7 rfl) (by decide) ?_
      exact hJ17 _ _ h
set_option maxRecDepth 100000 in
set_option maxHeartbeats 4000000 in
theorem qX10_stands (l : Launch) (g : G) (hg : gOK g) {a1 : Int32} {a2 : Int32}  {s0 σe : St} {v : Int32} (h : mX10_stands a1 a2 s0 = some (v, σe)) : Mc l g yX10_stands cX10_stands 4 (some .int) { frames := 2, cells := 0, slots := 0, locals := 43 } [.ref (g.2.2 0), .int a1, .int a2] s0 (some (.int v)) σe := by
  refine k_enter hg pnRX10 rfl (Nat.le_of_ble_eq_true rfl) ?_
  intro WK E
  have C := kX_y E
  unfold mX10_stands at h
  show WK 0 [(0, .ref (g.2.2 0)), (1, .int a1), (2, .int a2)] [] s0
  refine k_iload_n C (dk dX10_stands_0 0 rfl) rfl 1 rfl ?_
  refine cl2_k h (fun x2 s1 hc h => ?_)
  refine k_cs (As := [.int a1]) (st := []) C (qX10_isEither l g hg hc) (iW12 _ (List.mem_of_getElem? (i := 24) rfl)) (iW6 _ (List.mem_of_getElem? (i := 22) rfl)) (iW0 _ (List.mem_of_getElem? (i := 2) rfl)) (iW6 _ (List.mem_of_getElem? (i := 23) rfl)) rfl rfl hdX10_isEither (by decide) rfl rfl (Nat.le_of_ble_eq_true rfl) (dk dX10_stands_0 1 rfl) ?_
  refine k_if_eq (tgt := 15) C (dk dX10_stands_0 2 rfl) (by decide) h (fun h => ?_) (fun h => ?_)
  ·
    refine k_iconst (v := (-1 : Int32)) C (dk dX10_stands_0 7 rfl) (by decide) ?_
    exact k_iret E (dk dX10_stands_0 8 rfl) h
  ·
    refine k_iload_n C (dk dX10_stands_0 3 rfl) rfl 2 rfl ?_
    refine k_i2l C (dk dX10_stands_0 4 rfl) ?_
    refine cl2_k h (fun x4 s3 hc h => ?_)
    refine k_cs (As := [.long a2.toInt64]) (st := []) C (qX10_isCell l g hg hc) (iW10 _ (List.mem_of_getElem? (i := 29) rfl)) (iW5 _ (List.mem_of_getElem? (i := 20) rfl)) (iW0 _ (List.mem_of_getElem? (i := 2) rfl)) (iW5 _ (List.mem_of_getElem? (i := 21) rfl)) rfl rfl hdX10_isCell (by decide) rfl rfl (Nat.le_of_ble_eq_true rfl) (dk dX10_stands_0 5 rfl) ?_
    refine k_if_ne (tgt := 17) C (dk dX10_stands_0 6 rfl) (by decide) h (fun h => ?_) (fun h => ?_)
    ·
      refine k_aload_n C (dk dX10_stands_0 9 rfl) rfl 0 rfl ?_
      refine k_getR (q := 1) (D := RX10) (T := TX10) (N := 9) (ci := 5) (k := 0) C iCX10 rfl (by decide) rfl (by decide) (iW0 _ (List.mem_of_getElem? (i := 16) rfl)) rfl (dk dX10_stands_0 10 rfl) ?_
      refine k_iload_n C (dk dX10_stands_0 11 rfl) rfl 2 rfl ?_
      refine cl2_k h (fun x6 s5 hc h => ?_)
      refine k_cv (T := TX3) (N := 10) (ci := 1) (ob := 1) (As := [.int a2]) (st := []) C (qX3_isOpen l g hg rfl hc) (iW11 _ (List.mem_of_getElem? (i := 9) rfl)) (iW6 _ (List.mem_of_getElem? (i := 1) rfl)) (iW6 _ (List.mem_of_getElem? (i := 2) rfl)) (iW0 _ (List.mem_of_getElem? (i := 15) rfl)) (iW6 _ (List.mem_of_getElem? (i := 3) rfl)) rfl rfl hdX3_isOpen (by decide) rfl (by decide) rfl rfl rfl (Nat.le_of_ble_eq_true rfl) (dk dX10_stands_0 12 rfl) ?_
      refine k_if_ne (tgt := 31) C (dk dX10_stands_0 13 rfl) (by decide) h (fun h => ?_) (fun h => ?_)
      ·
        refine k_iload_n C (dk dX10_stands_0 16 rfl) rfl 1 rfl ?_
        refine kl_J (P := (fun J52 => ∀ (y7 : Int32) (s8 : St), J52 y7 s8 = some (v, σe) → WK 52 [(0, .ref (g.2.2 0)), (1, .int a1), (2, .int a2)] [.int y7] s8)) h (fun y7 s8 h => ?_) (fun J52 hJ52 h => ?_)
        ·
          unfold mX10_stands_52 at h
          refine k_istore_n (lv' := [(3, .int y7), (0, .ref (g.2.2 0)), (1, .int a1), (2, .int a2)]) C (dk dX10_stands_0 25 rfl) rfl (by decide) rfl ?_
          refine k_aload_n C (dk dX10_stands_0 26 rfl) rfl 1 rfl ?_
          refine k_getR (q := 1) (D := RX10) (T := TX10) (N := 9) (ci := 5) (k := 0) C iCX10 rfl (by decide) rfl (by decide) (iW0 _ (List.mem_of_getElem? (i := 16) rfl)) rfl (dk dX10_stands_0 27 rfl) ?_
          refine k_iload_n C (dk dX10_stands_0 28 rfl) rfl 2 rfl ?_
          refine k_iload_n C (dk dX10_stands_0 29 rfl) rfl 3 rfl ?_
          refine cl1_k h (fun s9 hc h => ?_)
          refine k_cv (T := TX3) (N := 10) (ci := 1) (ob := 1) (As := [.int a1, .int a2]) (st := []) C (qX3_place l g hg rfl hc) (iW12 _ (List.mem_of_getElem? (i := 25) rfl)) (iW6 _ (List.mem_of_getElem? (i := 8) rfl)) (iW6 _ (List.mem_of_getElem? (i := 9) rfl)) (iW0 _ (List.mem_of_getElem? (i := 15) rfl)) (iW6 _ (List.mem_of_getElem? (i := 10) rfl)) rfl rfl hdX3_place (by decide) rfl (by decide) rfl rfl rfl (Nat.le_of_ble_eq_true rfl) (dk dX10_stands_0 30 rfl) ?_
          refine k_iload_n C (dk dX10_stands_0 31 rfl) rfl 0 rfl ?_
          exact k_iret E (dk dX10_stands_1 0 rfl) h
        ·
          refine k_if_ne (tgt := 45) C (dk dX10_stands_0 17 rfl) (by decide) h (fun h => ?_) (fun h => ?_)
          ·
            refine k_aload_n C (dk dX10_stands_0 22 rfl) rfl 0 rfl ?_
            refine k_getR (q := 1) (D := RX10) (T := TX10) (N := 9) (ci := 5) (k := 0) C iCX10 rfl (by decide) rfl (by decide) (iW0 _ (List.mem_of_getElem? (i := 16) rfl)) rfl (dk dX10_stands_0 23 rfl) ?_
            refine k_getI (D := RX3) (T := TX3) (N := 10) (ci := 1) (k := 6) C iCX3 rfl (by decide) rfl (by decide) (iW12 _ (List.mem_of_getElem? (i := 23) rfl)) rfl (dk dX10_stands_0 24 rfl) h (fun x10 h => ?_)
            exact hJ52 _ _ h
          ·
            refine k_aload_n C (dk dX10_stands_0 18 rfl) rfl 0 rfl ?_
            refine k_getR (q := 1) (D := RX10) (T := TX10) (N := 9) (ci := 5) (k := 0) C iCX10 rfl (by decide) rfl (by decide) (iW0 _ (List.mem_of_getElem? (i := 16) rfl)) rfl (dk dX10_stands_0 19 rfl) ?_
            refine k_getI (D := RX3) (T := TX3) (N := 10) (ci := 1) (k := 5) C iCX3 rfl (by decide) rfl (by decide) (iW12 _ (List.mem_of_getElem? (i := 22) rfl)) rfl (dk dX10_stands_0 20 rfl) h (fun x11 h => ?_)
            refine k_goto (tgt := 52) C (dk dX10_stands_0 21 rfl) (by decide) ?_
            exact hJ52 _ _ h
      ·
        refine k_bipush (v := (-3 : Int32)) C (dk dX10_stands_0 14 rfl) (by decide) ?_
        exact k_iret E (dk dX10_stands_0 15 rfl) h
    ·
      refine k_iconst (v := (-1 : Int32)) C (dk dX10_stands_0 7 rfl) (by decide) ?_
      exact k_iret E (dk dX10_stands_0 8 rfl) h
set_option maxRecDepth 100000 in
set_option maxHeartbeats 4000000 in
theorem qX10_set (l : Launch) (g : G) (hg : gOK g) {a1 : Int32} {a2 : Int32}  {s0 σe : St} {v : Int32} (h : mX10_set a1 a2 s0 = some (v, σe)) : Mc l g yX10_set cX10_set 4 (some .int) { frames := 1, cells := 0, slots := 0, locals := 20 } [.ref (g.2.2 0), .int a1, .int a2] s0 (some (.int v)) σe := by
  refine k_enter hg pnRX10 rfl (Nat.le_of_ble_eq_true rfl) ?_
  intro WK E
  have C := kX_y E
  unfold mX10_set at h
  show WK 0 [(0, .ref (g.2.2 0)), (1, .int a1), (2, .int a2)] [] s0
  refine k_iload_n C (dk dX10_set_0 0 rfl) rfl 1 rfl ?_
  refine kl_J (P := (fun J30 => ∀ (s1 : St), J30 s1 = some (v, σe) → WK 30 [(0, .ref (g.2.2 0)), (1, .int a1), (2, .int a2)] [] s1)) h (fun s1 h => ?_) (fun J30 hJ30 h => ?_)
  ·
    unfold mX10_set_30 at h
    refine k_iload_n C (dk dX10_set_0 14 rfl) rfl 1 rfl ?_
    refine k_iconst (v := (1 : Int32)) C (dk dX10_set_0 15 rfl) (by decide) ?_
    refine kl_J (P := (fun J61 => ∀ (s2 : St), J61 s2 = some (v, σe) → WK 61 [(0, .ref (g.2.2 0)), (1, .int a1), (2, .int a2)] [] s2)) h (fun s2 h => ?_) (fun J61 hJ61 h => ?_)
    ·
      unfold mX10_set_61 at h
      refine k_iload_n C (dk dX10_set_0 29 rfl) rfl 1 rfl ?_
      refine k_iconst (v := (2 : Int32)) C (dk dX10_set_0 30 rfl) (by decide) ?_
      refine kl_J (P := (fun J92 => ∀ (s3 : St), J92 s3 = some (v, σe) → WK 92 [] [] s3)) h (fun s3 h => ?_) (fun J92 hJ92 h => ?_)
      ·
        unfold mX10_set_92 at h
        refine k_iconst (v := (-1 : Int32)) C (dk dX10_set_1 12 rfl) (by decide) ?_
        refine k_istore_n (lv' := [(3, .int (-1 : Int32))]) C (dk dX10_set_1 13 rfl) rfl (by decide) rfl ?_
        refine k_iload_n C (dk dX10_set_1 14 rfl) rfl 0 rfl ?_
        exact k_iret E (dk dX10_set_1 15 rfl) h
      ·
        refine k_icmp_ne (tgt := 92) C (dk dX10_set_0 31 rfl) (by decide) h (fun h => ?_) (fun h => ?_)
        ·
          refine k_sub C [] rfl ?_
          exact hJ92 _ h
        ·
          refine k_iload_n C (dk dX10_set_1 0 rfl) rfl 2 rfl ?_
          refine cl2_k h (fun x5 s4 hc h => ?_)
          refine k_cs (As := [.int a2]) (st := []) C (qX10_isEither l g hg hc) (iW12 _ (List.mem_of_getElem? (i := 24) rfl)) (iW6 _ (List.mem_of_getElem? (i := 22) rfl)) (iW0 _ (List.mem_of_getElem? (i := 2) rfl)) (iW6 _ (List.mem_of_getElem? (i := 23) rfl)) rfl rfl hdX10_isEither (by decide) rfl rfl (Nat.le_of_ble_eq_true rfl) (dk dX10_set_1 1 rfl) ?_
          refine k_if_eq (tgt := 92) C (dk dX10_set_1 2 rfl) (by decide) h (fun h => ?_) (fun h => ?_)
          ·
            refine k_sub C [] rfl ?_
            exact hJ92 _ h
          ·
            refine k_aload_n C (dk dX10_set_1 3 rfl) rfl 0 rfl ?_
            refine k_getR (q := 1) (D := RX10) (T := TX10) (N := 9) (ci := 5) (k := 0) C iCX10 rfl (by decide) rfl (by decide) (iW0 _ (List.mem_of_getElem? (i := 16) rfl)) rfl (dk dX10_set_1 4 rfl) ?_
            refine k_getI (D := RX3) (T := TX3) (N := 10) (ci := 1) (k := 2) C iCX3 rfl (by decide) rfl (by decide) (iW13 _ (List.mem_of_getElem? (i := 6) rfl)) rfl (dk dX10_set_1 5 rfl) h (fun x6 h => ?_)
            refine k_istore_n (lv' := [(3, .int x6), (0, .ref (g.2.2 0)), (1, .int a1), (2, .int a2)]) C (dk dX10_set_1 6 rfl) rfl (by decide) rfl ?_
            refine k_aload_n C (dk dX10_set_1 7 rfl) rfl 1 rfl ?_
            refine k_getR (q := 1) (D := RX10) (T := TX10) (N := 9) (ci := 5) (k := 0) C iCX10 rfl (by decide) rfl (by decide) (iW0 _ (List.mem_of_getElem? (i := 16) rfl)) rfl (dk dX10_set_1 8 rfl) ?_
            refine k_iload_n C (dk dX10_set_1 9 rfl) rfl 3 rfl ?_
            refine k_putI (D := RX3) (T := TX3) (N := 10) (ci := 1) (k := 2) C iCX3 tyX3_ok nmX3 rfl (by decide) rfl (by decide) (iW13 _ (List.mem_of_getElem? (i := 6) rfl)) rfl rfl flq1_2 flp1_2 (dk dX10_set_1 10 rfl) h (fun s7 h => ?_)
            refine k_goto (tgt := 94) C (dk dX10_set_1 11 rfl) (by decide) ?_
            refine k_iload_n C (dk dX10_set_1 14 rfl) rfl 0 rfl ?_
            exact k_iret E (dk dX10_set_1 15 rfl) h
    ·
      refine k_icmp_ne (tgt := 61) C (dk dX10_set_0 16 rfl) (by decide) h (fun h => ?_) (fun h => ?_)
      ·
        exact hJ61 _ h
      ·
        refine k_iload_n C (dk dX10_set_0 17 rfl) rfl 2 rfl ?_
        refine cl2_k h (fun x9 s8 hc h => ?_)
        refine k_cs (As := [.int a2]) (st := []) C (qX10_isDistance l g hg hc) (iW13 _ (List.mem_of_getElem? (i := 7) rfl)) (iW6 _ (List.mem_of_getElem? (i := 16) rfl)) (iW0 _ (List.mem_of_getElem? (i := 2) rfl)) (iW6 _ (List.mem_of_getElem? (i := 17) rfl)) rfl rfl hdX10_isDistance (by decide) rfl rfl (Nat.le_of_ble_eq_true rfl) (dk dX10_set_0 18 rfl) ?_
        refine k_if_eq (tgt := 61) C (dk dX10_set_0 19 rfl) (by decide) h (fun h => ?_) (fun h => ?_)
        ·
          exact hJ61 _ h
        ·
          refine k_aload_n C (dk dX10_set_0 20 rfl) rfl 0 rfl ?_
          refine k_getR (q := 1) (D := RX10) (T := TX10) (N := 9) (ci := 5) (k := 0) C iCX10 rfl (by decide) rfl (by decide) (iW0 _ (List.mem_of_getElem? (i := 16) rfl)) rfl (dk dX10_set_0 21 rfl) ?_
          refine k_getI (D := RX3) (T := TX3) (N := 10) (ci := 1) (k := 4) C iCX3 rfl (by decide) rfl (by decide) (iW13 _ (List.mem_of_getElem? (i := 5) rfl)) rfl (dk dX10_set_0 22 rfl) h (fun x10 h => ?_)
          refine k_istore_n (lv' := [(3, .int x10), (0, .ref (g.2.2 0)), (1, .int a1), (2, .int a2)]) C (dk dX10_set_0 23 rfl) rfl (by decide) rfl ?_
          refine k_aload_n C (dk dX10_set_0 24 rfl) rfl 1 rfl ?_
          refine k_getR (q := 1) (D := RX10) (T := TX10) (N := 9) (ci := 5) (k := 0) C iCX10 rfl (by decide) rfl (by decide) (iW0 _ (List.mem_of_getElem? (i := 16) rfl)) rfl (dk dX10_set_0 25 rfl) ?_
          refine k_iload_n C (dk dX10_set_0 26 rfl) rfl 3 rfl ?_
          refine k_putI (D := RX3) (T := TX3) (N := 10) (ci := 1) (k := 4) C iCX3 tyX3_ok nmX3 rfl (by decide) rfl (by decide) (iW13 _ (List.mem_of_getElem? (i := 5) rfl)) rfl rfl flq1_4 flp1_4 (dk dX10_set_0 27 rfl) h (fun s11 h => ?_)
          refine k_goto (tgt := 94) C (dk dX10_set_0 28 rfl) (by decide) ?_
          refine k_iload_n C (dk dX10_set_1 14 rfl) rfl 0 rfl ?_
          exact k_iret E (dk dX10_set_1 15 rfl) h
  ·
    refine k_if_ne (tgt := 30) C (dk dX10_set_0 1 rfl) (by decide) h (fun h => ?_) (fun h => ?_)
    ·
      exact hJ30 _ h
    ·
      refine k_iload_n C (dk dX10_set_0 2 rfl) rfl 2 rfl ?_
      refine cl2_k h (fun x13 s12 hc h => ?_)
      refine k_cs (As := [.int a2]) (st := []) C (qX10_isDistance l g hg hc) (iW13 _ (List.mem_of_getElem? (i := 7) rfl)) (iW6 _ (List.mem_of_getElem? (i := 16) rfl)) (iW0 _ (List.mem_of_getElem? (i := 2) rfl)) (iW6 _ (List.mem_of_getElem? (i := 17) rfl)) rfl rfl hdX10_isDistance (by decide) rfl rfl (Nat.le_of_ble_eq_true rfl) (dk dX10_set_0 3 rfl) ?_
      refine k_if_eq (tgt := 30) C (dk dX10_set_0 4 rfl) (by decide) h (fun h => ?_) (fun h => ?_)
      ·
        exact hJ30 _ h
      ·
        refine k_aload_n C (dk dX10_set_0 5 rfl) rfl 0 rfl ?_
        refine k_getR (q := 1) (D := RX10) (T := TX10) (N := 9) (ci := 5) (k := 0) C iCX10 rfl (by decide) rfl (by decide) (iW0 _ (List.mem_of_getElem? (i := 16) rfl)) rfl (dk dX10_set_0 6 rfl) ?_
        refine k_getI (D := RX3) (T := TX3) (N := 10) (ci := 1) (k := 3) C iCX3 rfl (by decide) rfl (by decide) (iW13 _ (List.mem_of_getElem? (i := 4) rfl)) rfl (dk dX10_set_0 7 rfl) h (fun x14 h => ?_)
        refine k_istore_n (lv' := [(3, .int x14), (0, .ref (g.2.2 0)), (1, .int a1), (2, .int a2)]) C (dk dX10_set_0 8 rfl) rfl (by decide) rfl ?_
        refine k_aload_n C (dk dX10_set_0 9 rfl) rfl 1 rfl ?_
        refine k_getR (q := 1) (D := RX10) (T := TX10) (N := 9) (ci := 5) (k := 0) C iCX10 rfl (by decide) rfl (by decide) (iW0 _ (List.mem_of_getElem? (i := 16) rfl)) rfl (dk dX10_set_0 10 rfl) ?_
        refine k_iload_n C (dk dX10_set_0 11 rfl) rfl 3 rfl ?_
        refine k_putI (D := RX3) (T := TX3) (N := 10) (ci := 1) (k := 3) C iCX3 tyX3_ok nmX3 rfl (by decide) rfl (by decide) (iW13 _ (List.mem_of_getElem? (i := 4) rfl)) rfl rfl flq1_3 flp1_3 (dk dX10_set_0 12 rfl) h (fun s15 h => ?_)
        refine k_goto (tgt := 94) C (dk dX10_set_0 13 rfl) (by decide) ?_
        refine k_iload_n C (dk dX10_set_1 14 rfl) rfl 0 rfl ?_
        exact k_iret E (dk dX10_set_1 15 rfl) h
set_option maxRecDepth 100000 in
set_option maxHeartbeats 4000000 in
theorem qX10_go (l : Launch) (g : G) (hg : gOK g) {a1 : Int32} {a2 : Int32}  {s0 σe : St} {v : Int32} (h : mX10_go a1 a2 s0 = some (v, σe)) : Mc l g yX10_go cX10_go 3 (some .int) { frames := 5, cells := 0, slots := 0, locals := 114 } [.ref (g.2.2 0), .int a1, .int a2] s0 (some (.int v)) σe := by
  refine k_enter hg pnRX10 rfl (Nat.le_of_ble_eq_true rfl) ?_
  intro WK E
  have C := kX_y E
  unfold mX10_go at h
  show WK 0 [(0, .ref (g.2.2 0)), (1, .int a1), (2, .int a2)] [] s0
  refine k_iload_n C (dk dX10_go_0 0 rfl) rfl 1 rfl ?_
  refine cl2_k h (fun x2 s1 hc h => ?_)
  refine k_cs (As := [.int a1]) (st := []) C (qX10_isWay l g hg hc) (iW13 _ (List.mem_of_getElem? (i := 18) rfl)) (iW13 _ (List.mem_of_getElem? (i := 19) rfl)) (iW0 _ (List.mem_of_getElem? (i := 2) rfl)) (iW13 _ (List.mem_of_getElem? (i := 20) rfl)) rfl rfl hdX10_isWay (by decide) rfl rfl (Nat.le_of_ble_eq_true rfl) (dk dX10_go_0 1 rfl) ?_
  refine k_if_eq (tgt := 14) C (dk dX10_go_0 2 rfl) (by decide) h (fun h => ?_) (fun h => ?_)
  ·
    refine k_iconst (v := (-1 : Int32)) C (dk dX10_go_0 6 rfl) (by decide) ?_
    exact k_iret E (dk dX10_go_0 7 rfl) h
  ·
    refine k_iload_n C (dk dX10_go_0 3 rfl) rfl 2 rfl ?_
    refine cl2_k h (fun x4 s3 hc h => ?_)
    refine k_cs (As := [.int a2]) (st := []) C (qX10_isWay l g hg hc) (iW13 _ (List.mem_of_getElem? (i := 18) rfl)) (iW13 _ (List.mem_of_getElem? (i := 19) rfl)) (iW0 _ (List.mem_of_getElem? (i := 2) rfl)) (iW13 _ (List.mem_of_getElem? (i := 20) rfl)) rfl rfl hdX10_isWay (by decide) rfl rfl (Nat.le_of_ble_eq_true rfl) (dk dX10_go_0 4 rfl) ?_
    refine k_if_ne (tgt := 16) C (dk dX10_go_0 5 rfl) (by decide) h (fun h => ?_) (fun h => ?_)
    ·
      refine k_aload_n C (dk dX10_go_0 8 rfl) rfl 0 rfl ?_
      refine k_getR (q := 1) (D := RX10) (T := TX10) (N := 9) (ci := 5) (k := 0) C iCX10 rfl (by decide) rfl (by decide) (iW0 _ (List.mem_of_getElem? (i := 16) rfl)) rfl (dk dX10_go_0 9 rfl) ?_
      refine k_iload_n C (dk dX10_go_0 10 rfl) rfl 1 rfl ?_
      refine k_iload_n C (dk dX10_go_0 11 rfl) rfl 2 rfl ?_
      refine cl2_k h (fun x6 s5 hc h => ?_)
      refine k_cv (T := TX3) (N := 10) (ci := 1) (ob := 1) (As := [.int a1, .int a2]) (st := []) C (qX3_goDay l g hg rfl hc) (iW13 _ (List.mem_of_getElem? (i := 21) rfl)) (iW6 _ (List.mem_of_getElem? (i := 25) rfl)) (iW6 _ (List.mem_of_getElem? (i := 26) rfl)) (iW0 _ (List.mem_of_getElem? (i := 15) rfl)) (iW6 _ (List.mem_of_getElem? (i := 27) rfl)) rfl rfl hdX3_goDay (by decide) rfl (by decide) rfl rfl rfl (Nat.le_of_ble_eq_true rfl) (dk dX10_go_0 12 rfl) ?_
      refine k_if_eq (tgt := 52) C (dk dX10_go_0 13 rfl) (by decide) h (fun h => ?_) (fun h => ?_)
      ·
        refine k_bipush (v := (-3 : Int32)) C (dk dX10_go_0 24 rfl) (by decide) ?_
        exact k_iret E (dk dX10_go_0 25 rfl) h
      ·
        refine k_aload_n C (dk dX10_go_0 14 rfl) rfl 0 rfl ?_
        refine k_getR (q := 1) (D := RX10) (T := TX10) (N := 9) (ci := 5) (k := 0) C iCX10 rfl (by decide) rfl (by decide) (iW0 _ (List.mem_of_getElem? (i := 16) rfl)) rfl (dk dX10_go_0 15 rfl) ?_
        refine k_aload_n C (dk dX10_go_0 16 rfl) rfl 0 rfl ?_
        refine k_getR (q := 1) (D := RX10) (T := TX10) (N := 9) (ci := 5) (k := 0) C iCX10 rfl (by decide) rfl (by decide) (iW0 _ (List.mem_of_getElem? (i := 16) rfl)) rfl (dk dX10_go_0 17 rfl) ?_
        refine k_getI (D := RX3) (T := TX3) (N := 10) (ci := 1) (k := 5) C iCX3 rfl (by decide) rfl (by decide) (iW12 _ (List.mem_of_getElem? (i := 22) rfl)) rfl (dk dX10_go_0 18 rfl) h (fun x7 h => ?_)
        refine k_aload_n C (dk dX10_go_0 19 rfl) rfl 0 rfl ?_
        refine k_getR (q := 1) (D := RX10) (T := TX10) (N := 9) (ci := 5) (k := 0) C iCX10 rfl (by decide) rfl (by decide) (iW0 _ (List.mem_of_getElem? (i := 16) rfl)) rfl (dk dX10_go_0 20 rfl) ?_
        refine k_getI (D := RX3) (T := TX3) (N := 10) (ci := 1) (k := 6) C iCX3 rfl (by decide) rfl (by decide) (iW12 _ (List.mem_of_getElem? (i := 23) rfl)) rfl (dk dX10_go_0 21 rfl) h (fun x8 h => ?_)
        refine cl2_k h (fun x10 s9 hc h => ?_)
        refine k_cv (T := TX3) (N := 10) (ci := 1) (ob := 1) (As := [.int x7, .int x8]) (st := []) C (qX3_farBetween l g hg rfl hc) (iW13 _ (List.mem_of_getElem? (i := 22) rfl)) (iW7 _ (List.mem_of_getElem? (i := 12) rfl)) (iW7 _ (List.mem_of_getElem? (i := 13) rfl)) (iW0 _ (List.mem_of_getElem? (i := 15) rfl)) (iW7 _ (List.mem_of_getElem? (i := 14) rfl)) rfl rfl hdX3_farBetween (by decide) rfl (by decide) rfl rfl rfl (Nat.le_of_ble_eq_true rfl) (dk dX10_go_0 22 rfl) ?_
        refine k_goto (tgt := 54) C (dk dX10_go_0 23 rfl) (by decide) ?_
        exact k_iret E (dk dX10_go_0 25 rfl) h
    ·
      refine k_iconst (v := (-1 : Int32)) C (dk dX10_go_0 6 rfl) (by decide) ?_
      exact k_iret E (dk dX10_go_0 7 rfl) h
