set_option maxRecDepth 100000 in
set_option maxHeartbeats 4000000 in
theorem qX10_game (l : Launch) (g : G) (hg : gOK g) {a1 : Int32}  {s0 σe : St} {v : Int32} (h : mX10_game a1 s0 = some (v, σe)) : Mc l g yX10_game cX10_game 2 (some .int) { frames := 4, cells := 0, slots := 0, locals := 93 } [.ref (g.2.2 0), .int a1] s0 (some (.int v)) σe := by
  refine k_enter hg pnRX10 rfl (Nat.le_of_ble_eq_true rfl) ?_
  intro WK E
  have C := kX_y E
  unfold mX10_game at h
  show WK 0 [(0, .ref (g.2.2 0)), (1, .int a1)] [] s0
  refine k_iload_n C (dk dX10_game_0 0 rfl) rfl 1 rfl ?_
  refine cl2_k h (fun x2 s1 hc h => ?_)
  refine k_cs (As := [.int a1]) (st := []) C (qX10_isEither l g hg hc) (iW12 _ (List.mem_of_getElem? (i := 24) rfl)) (iW6 _ (List.mem_of_getElem? (i := 22) rfl)) (iW0 _ (List.mem_of_getElem? (i := 2) rfl)) (iW6 _ (List.mem_of_getElem? (i := 23) rfl)) rfl rfl hdX10_isEither (by decide) rfl rfl (Nat.le_of_ble_eq_true rfl) (dk dX10_game_0 1 rfl) ?_
  refine k_if_ne (tgt := 9) C (dk dX10_game_0 2 rfl) (by decide) h (fun h => ?_) (fun h => ?_)
  ·
    refine k_aload_n C (dk dX10_game_0 5 rfl) rfl 0 rfl ?_
    refine k_getR (q := 1) (D := RX10) (T := TX10) (N := 9) (ci := 5) (k := 0) C iCX10 rfl (by decide) rfl (by decide) (iW0 _ (List.mem_of_getElem? (i := 16) rfl)) rfl (dk dX10_game_0 6 rfl) ?_
    refine cl2_k h (fun x4 s3 hc h => ?_)
    refine k_cv (T := TX3) (N := 10) (ci := 1) (ob := 1) (As := []) (st := []) C (qX3_bothStand l g hg rfl hc) (iW19 _ (List.mem_of_getElem? (i := 19) rfl)) (iW19 _ (List.mem_of_getElem? (i := 20) rfl)) (iW19 _ (List.mem_of_getElem? (i := 21) rfl)) (iW0 _ (List.mem_of_getElem? (i := 15) rfl)) (iW19 _ (List.mem_of_getElem? (i := 22) rfl)) rfl rfl hdX3_bothStand (by decide) rfl (by decide) rfl rfl rfl (Nat.le_of_ble_eq_true rfl) (dk dX10_game_0 7 rfl) ?_
    refine k_if_ne (tgt := 22) C (dk dX10_game_0 8 rfl) (by decide) h (fun h => ?_) (fun h => ?_)
    ·
      refine k_aload_n C (dk dX10_game_0 11 rfl) rfl 0 rfl ?_
      refine k_getR (q := 42) (D := RX10) (T := TX10) (N := 9) (ci := 5) (k := 6) C iCX10 rfl (by decide) rfl (by decide) (iW1 _ (List.mem_of_getElem? (i := 0) rfl)) rfl (dk dX10_game_0 12 rfl) ?_
      refine k_aload_n C (dk dX10_game_0 13 rfl) rfl 0 rfl ?_
      refine k_getR (q := 1) (D := RX10) (T := TX10) (N := 9) (ci := 5) (k := 0) C iCX10 rfl (by decide) rfl (by decide) (iW0 _ (List.mem_of_getElem? (i := 16) rfl)) rfl (dk dX10_game_0 14 rfl) ?_
      refine cl1_k h (fun s5 hc h => ?_)
      refine k_cv (T := TX4) (N := 1) (ci := 2) (ob := 42) (As := [.ref (g.2.2 1)]) (st := []) C (qX4_lay l g hg rfl hc) (iW28 _ (List.mem_of_getElem? (i := 13) rfl)) (iW28 _ (List.mem_of_getElem? (i := 14) rfl)) (iW28 _ (List.mem_of_getElem? (i := 15) rfl)) (iW0 _ (List.mem_of_getElem? (i := 29) rfl)) (iW28 _ (List.mem_of_getElem? (i := 16) rfl)) rfl rfl hdX4_lay (by decide) rfl (by decide) rfl rfl rfl (Nat.le_of_ble_eq_true rfl) (dk dX10_game_0 15 rfl) ?_
      refine k_iload_n C (dk dX10_game_0 16 rfl) rfl 1 rfl ?_
      refine k_if_ne (tgt := 47) C (dk dX10_game_0 17 rfl) (by decide) h (fun h => ?_) (fun h => ?_)
      ·
        refine k_aload_n C (dk dX10_game_0 22 rfl) rfl 0 rfl ?_
        refine k_getR (q := 42) (D := RX10) (T := TX10) (N := 9) (ci := 5) (k := 6) C iCX10 rfl (by decide) rfl (by decide) (iW1 _ (List.mem_of_getElem? (i := 0) rfl)) rfl (dk dX10_game_0 23 rfl) ?_
        refine cl2_k h (fun x7 s6 hc h => ?_)
        refine k_cv (T := TX4) (N := 1) (ci := 2) (ob := 42) (As := []) (st := []) C (qX4_leastSure l g hg hc) (iW29 _ (List.mem_of_getElem? (i := 3) rfl)) (iW29 _ (List.mem_of_getElem? (i := 4) rfl)) (iW29 _ (List.mem_of_getElem? (i := 5) rfl)) (iW0 _ (List.mem_of_getElem? (i := 29) rfl)) (iW29 _ (List.mem_of_getElem? (i := 6) rfl)) rfl rfl hdX4_leastSure (by decide) rfl (by decide) rfl rfl rfl (Nat.le_of_ble_eq_true rfl) (dk dX10_game_0 24 rfl) ?_
        exact k_iret E (dk dX10_game_0 25 rfl) h
      ·
        refine k_aload_n C (dk dX10_game_0 18 rfl) rfl 0 rfl ?_
        refine k_getR (q := 42) (D := RX10) (T := TX10) (N := 9) (ci := 5) (k := 6) C iCX10 rfl (by decide) rfl (by decide) (iW1 _ (List.mem_of_getElem? (i := 0) rfl)) rfl (dk dX10_game_0 19 rfl) ?_
        refine cl2_k h (fun x9 s8 hc h => ?_)
        refine k_cv (T := TX4) (N := 1) (ci := 2) (ob := 42) (As := []) (st := []) C (qX4_firstHeld l g hg hc) (iW28 _ (List.mem_of_getElem? (i := 21) rfl)) (iW28 _ (List.mem_of_getElem? (i := 22) rfl)) (iW28 _ (List.mem_of_getElem? (i := 23) rfl)) (iW0 _ (List.mem_of_getElem? (i := 29) rfl)) (iW28 _ (List.mem_of_getElem? (i := 24) rfl)) rfl rfl hdX4_firstHeld (by decide) rfl (by decide) rfl rfl rfl (Nat.le_of_ble_eq_true rfl) (dk dX10_game_0 20 rfl) ?_
        refine k_goto (tgt := 54) C (dk dX10_game_0 21 rfl) (by decide) ?_
        exact k_iret E (dk dX10_game_0 25 rfl) h
    ·
      refine k_bipush (v := (-3 : Int32)) C (dk dX10_game_0 9 rfl) (by decide) ?_
      exact k_iret E (dk dX10_game_0 10 rfl) h
  ·
    refine k_iconst (v := (-1 : Int32)) C (dk dX10_game_0 3 rfl) (by decide) ?_
    exact k_iret E (dk dX10_game_0 4 rfl) h
set_option maxRecDepth 100000 in
set_option maxHeartbeats 4000000 in
theorem qX10_snow (l : Launch) (g : G) (hg : gOK g) {a1 : Int32} {a2 : Int32} {a3 : Int32}  {s0 σe : St} {v : Int64} (h : mX10_snow a1 a2 a3 s0 = some (v, σe)) : Mc l g yX10_snow cX10_snow 8 (some .long) { frames := 4, cells := 0, slots := 0, locals := 102 } [.ref (g.2.2 0), .int a1, .int a2, .int a3] s0 (some (.long v)) σe := by
  refine k_enter hg pnRX10 rfl (Nat.le_of_ble_eq_true rfl) ?_
  intro WK E
  have C := kX_y E
  unfold mX10_snow at h
  show WK 0 [(0, .ref (g.2.2 0)), (1, .int a1), (2, .int a2), (3, .int a3)] [] s0
  refine k_iload_n C (dk dX10_snow_0 0 rfl) rfl 1 rfl ?_
  refine k_i2l C (dk dX10_snow_0 1 rfl) ?_
  refine cl2_k h (fun x2 s1 hc h => ?_)
  refine k_cs (As := [.long a1.toInt64]) (st := []) C (qX10_isCell l g hg hc) (iW10 _ (List.mem_of_getElem? (i := 29) rfl)) (iW5 _ (List.mem_of_getElem? (i := 20) rfl)) (iW0 _ (List.mem_of_getElem? (i := 2) rfl)) (iW5 _ (List.mem_of_getElem? (i := 21) rfl)) rfl rfl hdX10_isCell (by decide) rfl rfl (Nat.le_of_ble_eq_true rfl) (dk dX10_snow_0 2 rfl) ?_
  refine kl_J (P := (fun J23 => ∀ (s3 : St), J23 s3 = some (v, σe) → WK 23 [] [] s3)) h (fun s3 h => ?_) (fun J23 hJ23 h => ?_)
  ·
    unfold mX10_snow_23 at h
    refine k_iconst (v := (-1 : Int32)) C (dk dX10_snow_0 11 rfl) (by decide) ?_
    refine cl2_k h (fun x5 s4 hc h => ?_)
    refine k_cs (As := [.int (-1 : Int32)]) (st := []) C (qX10_ofLongs l g hg hc) (iW23 _ (List.mem_of_getElem? (i := 18) rfl)) (iW23 _ (List.mem_of_getElem? (i := 19) rfl)) (iW0 _ (List.mem_of_getElem? (i := 2) rfl)) (iW23 _ (List.mem_of_getElem? (i := 20) rfl)) rfl rfl hdX10_ofLongs (by decide) rfl rfl (Nat.le_of_ble_eq_true rfl) (dk dX10_snow_0 12 rfl) ?_
    exact k_lret E (dk dX10_snow_0 13 rfl) h
  ·
    refine k_if_eq (tgt := 23) C (dk dX10_snow_0 3 rfl) (by decide) h (fun h => ?_) (fun h => ?_)
    ·
      refine k_sub C [] rfl ?_
      exact hJ23 _ h
    ·
      refine k_iload_n C (dk dX10_snow_0 4 rfl) rfl 2 rfl ?_
      refine k_i2l C (dk dX10_snow_0 5 rfl) ?_
      refine cl2_k h (fun x7 s6 hc h => ?_)
      refine k_cs (As := [.long a2.toInt64]) (st := []) C (qX10_isCell l g hg hc) (iW10 _ (List.mem_of_getElem? (i := 29) rfl)) (iW5 _ (List.mem_of_getElem? (i := 20) rfl)) (iW0 _ (List.mem_of_getElem? (i := 2) rfl)) (iW5 _ (List.mem_of_getElem? (i := 21) rfl)) rfl rfl hdX10_isCell (by decide) rfl rfl (Nat.le_of_ble_eq_true rfl) (dk dX10_snow_0 6 rfl) ?_
      refine k_if_eq (tgt := 23) C (dk dX10_snow_0 7 rfl) (by decide) h (fun h => ?_) (fun h => ?_)
      ·
        refine k_sub C [] rfl ?_
        exact hJ23 _ h
      ·
        refine k_iload_n C (dk dX10_snow_0 8 rfl) rfl 3 rfl ?_
        refine cl2_k h (fun x9 s8 hc h => ?_)
        refine k_cs (As := [.int a3]) (st := []) C (qX10_isEither l g hg hc) (iW12 _ (List.mem_of_getElem? (i := 24) rfl)) (iW6 _ (List.mem_of_getElem? (i := 22) rfl)) (iW0 _ (List.mem_of_getElem? (i := 2) rfl)) (iW6 _ (List.mem_of_getElem? (i := 23) rfl)) rfl rfl hdX10_isEither (by decide) rfl rfl (Nat.le_of_ble_eq_true rfl) (dk dX10_snow_0 9 rfl) ?_
        refine k_if_ne (tgt := 28) C (dk dX10_snow_0 10 rfl) (by decide) h (fun h => ?_) (fun h => ?_)
        ·
          refine k_aload_n C (dk dX10_snow_0 14 rfl) rfl 0 rfl ?_
          refine k_getR (q := 1) (D := RX10) (T := TX10) (N := 9) (ci := 5) (k := 0) C iCX10 rfl (by decide) rfl (by decide) (iW0 _ (List.mem_of_getElem? (i := 16) rfl)) rfl (dk dX10_snow_0 15 rfl) ?_
          refine cl2_k h (fun x11 s10 hc h => ?_)
          refine k_cv (T := TX3) (N := 10) (ci := 1) (ob := 1) (As := []) (st := []) C (qX3_unsureCells l g hg rfl hc) (iW29 _ (List.mem_of_getElem? (i := 29) rfl)) (iW30 _ (List.mem_of_getElem? (i := 0) rfl)) (iW30 _ (List.mem_of_getElem? (i := 1) rfl)) (iW0 _ (List.mem_of_getElem? (i := 15) rfl)) (iW30 _ (List.mem_of_getElem? (i := 2) rfl)) rfl rfl hdX3_unsureCells (by decide) rfl (by decide) rfl rfl rfl (Nat.le_of_ble_eq_true rfl) (dk dX10_snow_0 16 rfl) ?_
          refine cl2_k h (fun x13 s12 hc h => ?_)
          refine k_cs (As := [.long x11]) (st := []) C (qJ13_bitCount_95d88 l g hg hc) (iW18 _ (List.mem_of_getElem? (i := 14) rfl)) (iW16 _ (List.mem_of_getElem? (i := 20) rfl)) (iW16 _ (List.mem_of_getElem? (i := 21) rfl)) (iW16 _ (List.mem_of_getElem? (i := 22) rfl)) rfl rfl hdJ13_bitCount_95d88 (by decide) rfl rfl (Nat.le_of_ble_eq_true rfl) (dk dX10_snow_0 17 rfl) ?_
          refine k_istore (lv' := [(4, .int x13), (0, .ref (g.2.2 0)), (1, .int a1), (2, .int a2), (3, .int a3)]) C (dk dX10_snow_0 18 rfl) (by decide) rfl ?_
          refine k_iload C (dk dX10_snow_0 19 rfl) 0 rfl ?_
          refine k_bipush (v := (8 : Int32)) C (dk dX10_snow_0 20 rfl) (by decide) ?_
          refine k_icmp_le (tgt := 53) C (dk dX10_snow_0 21 rfl) (by decide) h (fun h => ?_) (fun h => ?_)
          ·
            refine k_lconst (v := (1 : Int64)) C (dk dX10_snow_0 25 rfl) (by decide) ?_
            refine k_lstore (lv' := [(5, .long (1 : Int64)), (4, .int x13), (0, .ref (g.2.2 0)), (1, .int a1), (2, .int a2), (3, .int a3)]) C (dk dX10_snow_0 26 rfl) (by decide) rfl ?_
            refine k_iconst (v := (0 : Int32)) C (dk dX10_snow_0 27 rfl) (by decide) ?_
            refine k_istore (lv' := [(7, .int (0 : Int32)), (5, .long (1 : Int64)), (4, .int x13), (0, .ref (g.2.2 0)), (1, .int a1), (2, .int a2), (3, .int a3)]) C (dk dX10_snow_0 28 rfl) (by decide) rfl ?_
            refine kl_L (P := (fun J59 => ∀ (y14 : Int64) (y15 : Int32) (s16 : St), J59 y14 y15 s16 = some (v, σe) → WK 59 [(0, .ref (g.2.2 0)), (1, .int a1), (2, .int a2), (3, .int a3), (4, .int x13), (5, .long y14), (7, .int y15)] [] s16)) h (fun _ _ _ h => nomatch h) (fun J59 hJ59 y14 y15 s16 h => ?_) (fun J59 hJ59 h => ?_)
            ·
              unfold mX10_snow_59 at h
              refine k_iload C (dk dX10_snow_0 29 rfl) 6 rfl ?_
              refine k_iload C (dk dX10_snow_0 30 rfl) 4 rfl ?_
              refine k_icmp_ge (tgt := 80) C (dk dX10_snow_0 31 rfl) (by decide) h (fun h => ?_) (fun h => ?_)
              ·
                refine k_aload_n C (dk dX10_snow_1 6 rfl) rfl 0 rfl ?_
                refine k_getR (q := 1) (D := RX10) (T := TX10) (N := 9) (ci := 5) (k := 0) C iCX10 rfl (by decide) rfl (by decide) (iW0 _ (List.mem_of_getElem? (i := 16) rfl)) rfl (dk dX10_snow_1 7 rfl) ?_
                refine k_iload_n C (dk dX10_snow_1 8 rfl) rfl 1 rfl ?_
                refine k_iload_n C (dk dX10_snow_1 9 rfl) rfl 2 rfl ?_
                refine cl2_k h (fun x18 s17 hc h => ?_)
                refine k_cs (As := [.ref (g.2.2 1), .int a1, .int a2]) (st := []) C (qX6_likely l g hg rfl hc) (iW30 _ (List.mem_of_getElem? (i := 4) rfl)) (iW30 _ (List.mem_of_getElem? (i := 5) rfl)) (iW30 _ (List.mem_of_getElem? (i := 6) rfl)) (iW30 _ (List.mem_of_getElem? (i := 7) rfl)) rfl rfl hdX6_likely (by decide) rfl rfl (Nat.le_of_ble_eq_true rfl) (dk dX10_snow_1 10 rfl) ?_
                refine k_lload C (dk dX10_snow_1 11 rfl) 5 rfl ?_
                refine k_iload_n C (dk dX10_snow_1 12 rfl) rfl 3 rfl ?_
                refine cl2_k h (fun x20 s19 hc h => ?_)
                refine k_cs (As := [.long x18, .long y14, .int a3]) (st := []) C (qX1_partOf l g hg hc) (iW30 _ (List.mem_of_getElem? (i := 25) rfl)) (iW30 _ (List.mem_of_getElem? (i := 26) rfl)) (iW30 _ (List.mem_of_getElem? (i := 27) rfl)) (iW30 _ (List.mem_of_getElem? (i := 28) rfl)) rfl rfl hdX1_partOf (by decide) rfl rfl (Nat.le_of_ble_eq_true rfl) (dk dX10_snow_1 13 rfl) ?_
                exact k_lret E (dk dX10_snow_1 14 rfl) h
              ·
                refine k_lload C (dk dX10_snow_1 0 rfl) 5 rfl ?_
                refine k_ldc2 (v := (10 : Int64)) C (dk dX10_snow_1 1 rfl) (iW29 _ (List.mem_of_getElem? (i := 28) rfl)) ?_
                refine k_lmul C (dk dX10_snow_1 2 rfl) ?_
                refine nmL h (fun x21 h => ?_)
                refine k_lstore (lv' := [(5, .long x21), (0, .ref (g.2.2 0)), (1, .int a1), (2, .int a2), (3, .int a3), (4, .int x13), (7, .int y15)]) C (dk dX10_snow_1 3 rfl) (by decide) rfl ?_
                refine k_iinc (lv' := [(7, .int (y15 + 1)), (5, .long x21), (0, .ref (g.2.2 0)), (1, .int a1), (2, .int a2), (3, .int a3), (4, .int x13)]) C (dk dX10_snow_1 4 rfl) (j := 6) rfl rfl (by decide) rfl ?_
                refine k_goto (tgt := 59) C (dk dX10_snow_1 5 rfl) (by decide) ?_
                refine k_sub C [2, 3, 4, 5, 6, 1, 0] rfl ?_
                exact hJ59 _ _ _ h
            ·
              refine k_sub C [3, 4, 5, 6, 2, 1, 0] rfl ?_
              exact hJ59 _ _ _ h
          ·
            refine k_bipush (v := (-3 : Int32)) C (dk dX10_snow_0 22 rfl) (by decide) ?_
            refine cl2_k h (fun x23 s22 hc h => ?_)
            refine k_cs (As := [.int (-3 : Int32)]) (st := []) C (qX10_ofLongs l g hg hc) (iW23 _ (List.mem_of_getElem? (i := 18) rfl)) (iW23 _ (List.mem_of_getElem? (i := 19) rfl)) (iW0 _ (List.mem_of_getElem? (i := 2) rfl)) (iW23 _ (List.mem_of_getElem? (i := 20) rfl)) rfl rfl hdX10_ofLongs (by decide) rfl rfl (Nat.le_of_ble_eq_true rfl) (dk dX10_snow_0 23 rfl) ?_
            exact k_lret E (dk dX10_snow_0 24 rfl) h
        ·
          refine k_sub C [] rfl ?_
          exact hJ23 _ h
set_option maxRecDepth 100000 in
set_option maxHeartbeats 4000000 in
theorem qX10_mean (l : Launch) (g : G) (hg : gOK g) {a1 : Int32}  {s0 σe : St} {v : Int64} (h : mX10_mean a1 s0 = some (v, σe)) : Mc l g yX10_mean cX10_mean 2 (some .long) { frames := 4, cells := 0, slots := 0, locals := 90 } [.ref (g.2.2 0), .int a1] s0 (some (.long v)) σe := by
  refine k_enter hg pnRX10 rfl (Nat.le_of_ble_eq_true rfl) ?_
  intro WK E
  have C := kX_y E
  unfold mX10_mean at h
  show WK 0 [(0, .ref (g.2.2 0)), (1, .int a1)] [] s0
  refine k_iload_n C (dk dX10_mean_0 0 rfl) rfl 1 rfl ?_
  refine cl2_k h (fun x2 s1 hc h => ?_)
  refine k_cs (As := [.int a1]) (st := []) C (qX10_isEither l g hg hc) (iW12 _ (List.mem_of_getElem? (i := 24) rfl)) (iW6 _ (List.mem_of_getElem? (i := 22) rfl)) (iW0 _ (List.mem_of_getElem? (i := 2) rfl)) (iW6 _ (List.mem_of_getElem? (i := 23) rfl)) rfl rfl hdX10_isEither (by decide) rfl rfl (Nat.le_of_ble_eq_true rfl) (dk dX10_mean_0 1 rfl) ?_
  refine k_if_ne (tgt := 12) C (dk dX10_mean_0 2 rfl) (by decide) h (fun h => ?_) (fun h => ?_)
  ·
    refine k_aload_n C (dk dX10_mean_0 6 rfl) rfl 0 rfl ?_
    refine k_getR (q := 28) (D := RX10) (T := TX10) (N := 9) (ci := 5) (k := 4) C iCX10 rfl (by decide) rfl (by decide) (iW0 _ (List.mem_of_getElem? (i := 22) rfl)) rfl (dk dX10_mean_0 7 rfl) ?_
    refine k_aload_n C (dk dX10_mean_0 8 rfl) rfl 0 rfl ?_
    refine k_getR (q := 1) (D := RX10) (T := TX10) (N := 9) (ci := 5) (k := 0) C iCX10 rfl (by decide) rfl (by decide) (iW0 _ (List.mem_of_getElem? (i := 16) rfl)) rfl (dk dX10_mean_0 9 rfl) ?_
    refine cl1_k h (fun s3 hc h => ?_)
    refine k_cv (T := TX0) (N := 9) (ci := 0) (ob := 28) (As := [.ref (g.2.2 1)]) (st := []) C (qX0_lay l g hg rfl hc) (iW15 _ (List.mem_of_getElem? (i := 23) rfl)) (iW15 _ (List.mem_of_getElem? (i := 24) rfl)) (iW15 _ (List.mem_of_getElem? (i := 25) rfl)) (iW0 _ (List.mem_of_getElem? (i := 21) rfl)) (iW15 _ (List.mem_of_getElem? (i := 26) rfl)) rfl rfl hdX0_lay (by decide) rfl (by decide) rfl rfl rfl (Nat.le_of_ble_eq_true rfl) (dk dX10_mean_0 10 rfl) ?_
    refine k_aload_n C (dk dX10_mean_0 11 rfl) rfl 0 rfl ?_
    refine k_getR (q := 28) (D := RX10) (T := TX10) (N := 9) (ci := 5) (k := 4) C iCX10 rfl (by decide) rfl (by decide) (iW0 _ (List.mem_of_getElem? (i := 22) rfl)) rfl (dk dX10_mean_0 12 rfl) ?_
    refine cl2_k h (fun x5 s4 hc h => ?_)
    refine k_cv (T := TX0) (N := 9) (ci := 0) (ob := 28) (As := []) (st := []) C (qX0_farsInAll l g hg hc) (iW31 _ (List.mem_of_getElem? (i := 22) rfl)) (iW31 _ (List.mem_of_getElem? (i := 23) rfl)) (iW31 _ (List.mem_of_getElem? (i := 24) rfl)) (iW0 _ (List.mem_of_getElem? (i := 21) rfl)) (iW31 _ (List.mem_of_getElem? (i := 25) rfl)) rfl rfl hdX0_farsInAll (by decide) rfl (by decide) rfl rfl rfl (Nat.le_of_ble_eq_true rfl) (dk dX10_mean_0 13 rfl) ?_
    refine k_aload_n C (dk dX10_mean_0 14 rfl) rfl 0 rfl ?_
    refine k_getR (q := 28) (D := RX10) (T := TX10) (N := 9) (ci := 5) (k := 4) C iCX10 rfl (by decide) rfl (by decide) (iW0 _ (List.mem_of_getElem? (i := 22) rfl)) rfl (dk dX10_mean_0 15 rfl) ?_
    refine cl2_k h (fun x7 s6 hc h => ?_)
    refine k_cv (T := TX0) (N := 9) (ci := 0) (ob := 28) (As := []) (st := [.long x5]) C (qX0_pairsInAll l g hg hc) (iW16 _ (List.mem_of_getElem? (i := 12) rfl)) (iW16 _ (List.mem_of_getElem? (i := 13) rfl)) (iW16 _ (List.mem_of_getElem? (i := 14) rfl)) (iW0 _ (List.mem_of_getElem? (i := 21) rfl)) (iW16 _ (List.mem_of_getElem? (i := 15) rfl)) rfl rfl hdX0_pairsInAll (by decide) rfl (by decide) rfl rfl rfl (Nat.le_of_ble_eq_true rfl) (dk dX10_mean_0 16 rfl) ?_
    refine k_i2l C (dk dX10_mean_0 17 rfl) ?_
    refine k_iload_n C (dk dX10_mean_0 18 rfl) rfl 1 rfl ?_
    refine cl2_k h (fun x9 s8 hc h => ?_)
    refine k_cs (As := [.long x5, .long x7.toInt64, .int a1]) (st := []) C (qX1_partOf l g hg hc) (iW30 _ (List.mem_of_getElem? (i := 25) rfl)) (iW30 _ (List.mem_of_getElem? (i := 26) rfl)) (iW30 _ (List.mem_of_getElem? (i := 27) rfl)) (iW30 _ (List.mem_of_getElem? (i := 28) rfl)) rfl rfl hdX1_partOf (by decide) rfl rfl (Nat.le_of_ble_eq_true rfl) (dk dX10_mean_0 19 rfl) ?_
    exact k_lret E (dk dX10_mean_0 20 rfl) h
  ·
    refine k_iconst (v := (-1 : Int32)) C (dk dX10_mean_0 3 rfl) (by decide) ?_
    refine cl2_k h (fun x11 s10 hc h => ?_)
    refine k_cs (As := [.int (-1 : Int32)]) (st := []) C (qX10_ofLongs l g hg hc) (iW23 _ (List.mem_of_getElem? (i := 18) rfl)) (iW23 _ (List.mem_of_getElem? (i := 19) rfl)) (iW0 _ (List.mem_of_getElem? (i := 2) rfl)) (iW23 _ (List.mem_of_getElem? (i := 20) rfl)) rfl rfl hdX10_ofLongs (by decide) rfl rfl (Nat.le_of_ble_eq_true rfl) (dk dX10_mean_0 4 rfl) ?_
    exact k_lret E (dk dX10_mean_0 5 rfl) h
set_option maxRecDepth 100000 in
set_option maxHeartbeats 4000000 in
theorem qX10_curve (l : Launch) (g : G) (hg : gOK g) {a1 : Int32}  {s0 σe : St} {v : Int32} (h : mX10_curve a1 s0 = some (v, σe)) : Mc l g yX10_curve cX10_curve 2 (some .int) { frames := 4, cells := 0, slots := 0, locals := 90 } [.ref (g.2.2 0), .int a1] s0 (some (.int v)) σe := by
  refine k_enter hg pnRX10 rfl (Nat.le_of_ble_eq_true rfl) ?_
  intro WK E
  have C := kX_y E
  unfold mX10_curve at h
  show WK 0 [(0, .ref (g.2.2 0)), (1, .int a1)] [] s0
  refine k_iload_n C (dk dX10_curve_0 0 rfl) rfl 1 rfl ?_
  refine cl2_k h (fun x2 s1 hc h => ?_)
  refine k_cs (As := [.int a1]) (st := []) C (qX10_isDistance l g hg hc) (iW13 _ (List.mem_of_getElem? (i := 7) rfl)) (iW6 _ (List.mem_of_getElem? (i := 16) rfl)) (iW0 _ (List.mem_of_getElem? (i := 2) rfl)) (iW6 _ (List.mem_of_getElem? (i := 17) rfl)) rfl rfl hdX10_isDistance (by decide) rfl rfl (Nat.le_of_ble_eq_true rfl) (dk dX10_curve_0 1 rfl) ?_
  refine k_if_ne (tgt := 9) C (dk dX10_curve_0 2 rfl) (by decide) h (fun h => ?_) (fun h => ?_)
  ·
    refine k_aload_n C (dk dX10_curve_0 5 rfl) rfl 0 rfl ?_
    refine k_getR (q := 28) (D := RX10) (T := TX10) (N := 9) (ci := 5) (k := 4) C iCX10 rfl (by decide) rfl (by decide) (iW0 _ (List.mem_of_getElem? (i := 22) rfl)) rfl (dk dX10_curve_0 6 rfl) ?_
    refine k_aload_n C (dk dX10_curve_0 7 rfl) rfl 0 rfl ?_
    refine k_getR (q := 1) (D := RX10) (T := TX10) (N := 9) (ci := 5) (k := 0) C iCX10 rfl (by decide) rfl (by decide) (iW0 _ (List.mem_of_getElem? (i := 16) rfl)) rfl (dk dX10_curve_0 8 rfl) ?_
    refine cl1_k h (fun s3 hc h => ?_)
    refine k_cv (T := TX0) (N := 9) (ci := 0) (ob := 28) (As := [.ref (g.2.2 1)]) (st := []) C (qX0_lay l g hg rfl hc) (iW15 _ (List.mem_of_getElem? (i := 23) rfl)) (iW15 _ (List.mem_of_getElem? (i := 24) rfl)) (iW15 _ (List.mem_of_getElem? (i := 25) rfl)) (iW0 _ (List.mem_of_getElem? (i := 21) rfl)) (iW15 _ (List.mem_of_getElem? (i := 26) rfl)) rfl rfl hdX0_lay (by decide) rfl (by decide) rfl rfl rfl (Nat.le_of_ble_eq_true rfl) (dk dX10_curve_0 9 rfl) ?_
    refine k_aload_n C (dk dX10_curve_0 10 rfl) rfl 0 rfl ?_
    refine k_getR (q := 28) (D := RX10) (T := TX10) (N := 9) (ci := 5) (k := 4) C iCX10 rfl (by decide) rfl (by decide) (iW0 _ (List.mem_of_getElem? (i := 22) rfl)) rfl (dk dX10_curve_0 11 rfl) ?_
    refine k_aload_n C (dk dX10_curve_0 12 rfl) rfl 0 rfl ?_
    refine k_getR (q := 1) (D := RX10) (T := TX10) (N := 9) (ci := 5) (k := 0) C iCX10 rfl (by decide) rfl (by decide) (iW0 _ (List.mem_of_getElem? (i := 16) rfl)) rfl (dk dX10_curve_0 13 rfl) ?_
    refine k_getI (D := RX3) (T := TX3) (N := 10) (ci := 1) (k := 3) C iCX3 rfl (by decide) rfl (by decide) (iW13 _ (List.mem_of_getElem? (i := 4) rfl)) rfl (dk dX10_curve_0 14 rfl) h (fun x4 h => ?_)
    refine k_iload_n C (dk dX10_curve_0 15 rfl) rfl 1 rfl ?_
    refine cl1_k h (fun s5 hc h => ?_)
    refine k_cv (T := TX0) (N := 9) (ci := 0) (ob := 28) (As := [.int x4, .int a1]) (st := []) C (qX0_bound l g hg hc) (iW22 _ (List.mem_of_getElem? (i := 22) rfl)) (iW16 _ (List.mem_of_getElem? (i := 3) rfl)) (iW16 _ (List.mem_of_getElem? (i := 4) rfl)) (iW0 _ (List.mem_of_getElem? (i := 21) rfl)) (iW16 _ (List.mem_of_getElem? (i := 5) rfl)) rfl rfl hdX0_bound (by decide) rfl (by decide) rfl rfl rfl (Nat.le_of_ble_eq_true rfl) (dk dX10_curve_0 16 rfl) ?_
    refine k_aload_n C (dk dX10_curve_0 17 rfl) rfl 0 rfl ?_
    refine k_getR (q := 28) (D := RX10) (T := TX10) (N := 9) (ci := 5) (k := 4) C iCX10 rfl (by decide) rfl (by decide) (iW0 _ (List.mem_of_getElem? (i := 22) rfl)) rfl (dk dX10_curve_0 18 rfl) ?_
    refine k_aload_n C (dk dX10_curve_0 19 rfl) rfl 0 rfl ?_
    refine k_getR (q := 1) (D := RX10) (T := TX10) (N := 9) (ci := 5) (k := 0) C iCX10 rfl (by decide) rfl (by decide) (iW0 _ (List.mem_of_getElem? (i := 16) rfl)) rfl (dk dX10_curve_0 20 rfl) ?_
    refine cl2_k h (fun x7 s6 hc h => ?_)
    refine k_cv (T := TX3) (N := 10) (ci := 1) (ob := 1) (As := []) (st := [.ref (g.2.2 28)]) C (qX3_openCells l g hg rfl hc) (iW14 _ (List.mem_of_getElem? (i := 10) rfl)) (iW14 _ (List.mem_of_getElem? (i := 11) rfl)) (iW14 _ (List.mem_of_getElem? (i := 12) rfl)) (iW0 _ (List.mem_of_getElem? (i := 15) rfl)) (iW14 _ (List.mem_of_getElem? (i := 13) rfl)) rfl rfl hdX3_openCells (by decide) rfl (by decide) rfl rfl rfl (Nat.le_of_ble_eq_true rfl) (dk dX10_curve_0 21 rfl) ?_
    refine cl1_k h (fun s8 hc h => ?_)
    refine k_cv (T := TX0) (N := 9) (ci := 0) (ob := 28) (As := [.long x7]) (st := []) C (qX0_admit l g hg hc) (iW22 _ (List.mem_of_getElem? (i := 13) rfl)) (iW16 _ (List.mem_of_getElem? (i := 8) rfl)) (iW16 _ (List.mem_of_getElem? (i := 9) rfl)) (iW0 _ (List.mem_of_getElem? (i := 21) rfl)) (iW16 _ (List.mem_of_getElem? (i := 10) rfl)) rfl rfl hdX0_admit (by decide) rfl (by decide) rfl rfl rfl (Nat.le_of_ble_eq_true rfl) (dk dX10_curve_0 22 rfl) ?_
    refine k_aload_n C (dk dX10_curve_0 23 rfl) rfl 0 rfl ?_
    refine k_getR (q := 28) (D := RX10) (T := TX10) (N := 9) (ci := 5) (k := 4) C iCX10 rfl (by decide) rfl (by decide) (iW0 _ (List.mem_of_getElem? (i := 22) rfl)) rfl (dk dX10_curve_0 24 rfl) ?_
    refine cl2_k h (fun x10 s9 hc h => ?_)
    refine k_cv (T := TX0) (N := 9) (ci := 0) (ob := 28) (As := []) (st := []) C (qX0_pairsInAll l g hg hc) (iW16 _ (List.mem_of_getElem? (i := 12) rfl)) (iW16 _ (List.mem_of_getElem? (i := 13) rfl)) (iW16 _ (List.mem_of_getElem? (i := 14) rfl)) (iW0 _ (List.mem_of_getElem? (i := 21) rfl)) (iW16 _ (List.mem_of_getElem? (i := 15) rfl)) rfl rfl hdX0_pairsInAll (by decide) rfl (by decide) rfl rfl rfl (Nat.le_of_ble_eq_true rfl) (dk dX10_curve_0 25 rfl) ?_
    exact k_iret E (dk dX10_curve_0 26 rfl) h
  ·
    refine k_iconst (v := (-1 : Int32)) C (dk dX10_curve_0 3 rfl) (by decide) ?_
    exact k_iret E (dk dX10_curve_0 4 rfl) h
set_option maxRecDepth 100000 in
set_option maxHeartbeats 4000000 in
theorem qX10_judge (l : Launch) (g : G) (hg : gOK g) {a1 : Int32}  {s0 σe : St} {v : Int32} (h : mX10_judge a1 s0 = some (v, σe)) : Mc l g yX10_judge cX10_judge 3 (some .int) { frames := 4, cells := 0, slots := 0, locals := 96 } [.ref (g.2.2 0), .int a1] s0 (some (.int v)) σe := by
  refine k_enter hg pnRX10 rfl (Nat.le_of_ble_eq_true rfl) ?_
  intro WK E
  have C := kX_y E
  unfold mX10_judge at h
  show WK 0 [(0, .ref (g.2.2 0)), (1, .int a1)] [] s0
  refine k_iload_n C (dk dX10_judge_0 0 rfl) rfl 1 rfl ?_
  refine cl2_k h (fun x2 s1 hc h => ?_)
  refine k_cs (As := [.int a1]) (st := []) C (qX10_isShelf l g hg hc) (iW4 _ (List.mem_of_getElem? (i := 5) rfl)) (iW4 _ (List.mem_of_getElem? (i := 6) rfl)) (iW0 _ (List.mem_of_getElem? (i := 2) rfl)) (iW4 _ (List.mem_of_getElem? (i := 7) rfl)) rfl rfl hdX10_isShelf (by decide) rfl rfl (Nat.le_of_ble_eq_true rfl) (dk dX10_judge_0 1 rfl) ?_
  refine k_if_ne (tgt := 9) C (dk dX10_judge_0 2 rfl) (by decide) h (fun h => ?_) (fun h => ?_)
  ·
    refine k_aload_n C (dk dX10_judge_0 5 rfl) rfl 0 rfl ?_
    refine k_getR (q := 1) (D := RX10) (T := TX10) (N := 9) (ci := 5) (k := 0) C iCX10 rfl (by decide) rfl (by decide) (iW0 _ (List.mem_of_getElem? (i := 16) rfl)) rfl (dk dX10_judge_0 6 rfl) ?_
    refine k_getI (D := RX3) (T := TX3) (N := 10) (ci := 1) (k := 5) C iCX3 rfl (by decide) rfl (by decide) (iW12 _ (List.mem_of_getElem? (i := 22) rfl)) rfl (dk dX10_judge_0 7 rfl) h (fun x3 h => ?_)
    refine k_bipush (v := (-4 : Int32)) C (dk dX10_judge_0 8 rfl) (by decide) ?_
    refine k_icmp_ne (tgt := 24) C (dk dX10_judge_0 9 rfl) (by decide) h (fun h => ?_) (fun h => ?_)
    ·
      refine k_aload_n C (dk dX10_judge_0 12 rfl) rfl 0 rfl ?_
      refine k_iload_n C (dk dX10_judge_0 13 rfl) rfl 1 rfl ?_
      refine cl2_k h (fun x5 s4 hc h => ?_)
      refine k_cv (T := TX10) (N := 9) (ci := 5) (ob := 0) (As := [.int a1]) (st := []) C (qX10_refusalOfRow l g hg hc) (iW3 _ (List.mem_of_getElem? (i := 26) rfl)) (iW3 _ (List.mem_of_getElem? (i := 27) rfl)) (iW3 _ (List.mem_of_getElem? (i := 28) rfl)) (iW0 _ (List.mem_of_getElem? (i := 2) rfl)) (iW3 _ (List.mem_of_getElem? (i := 29) rfl)) rfl rfl hdX10_refusalOfRow (by decide) rfl (by decide) rfl rfl rfl (Nat.le_of_ble_eq_true rfl) (dk dX10_judge_0 14 rfl) ?_
      refine k_istore_n (lv' := [(2, .int x5), (0, .ref (g.2.2 0)), (1, .int a1)]) C (dk dX10_judge_0 15 rfl) rfl (by decide) rfl ?_
      refine k_iload_n C (dk dX10_judge_0 16 rfl) rfl 0 rfl ?_
      refine k_if_eq (tgt := 38) C (dk dX10_judge_0 17 rfl) (by decide) h (fun h => ?_) (fun h => ?_)
      ·
        refine k_aload_n C (dk dX10_judge_0 20 rfl) rfl 1 rfl ?_
        refine k_iload_n C (dk dX10_judge_0 21 rfl) rfl 2 rfl ?_
        refine cl2_k h (fun n7 s6 hc h => ?_)
        refine k_cv (T := TX10) (N := 9) (ci := 5) (ob := 0) (As := [.int a1]) (st := []) C (qX10_shelfAt l g hg hc) (iW4 _ (List.mem_of_getElem? (i := 8) rfl)) (iW4 _ (List.mem_of_getElem? (i := 9) rfl)) (iW4 _ (List.mem_of_getElem? (i := 10) rfl)) (iW0 _ (List.mem_of_getElem? (i := 2) rfl)) (iW4 _ (List.mem_of_getElem? (i := 11) rfl)) rfl rfl hdX10_shelfAt (by decide) rfl (by decide) rfl rfl rfl (Nat.le_of_ble_eq_true rfl) (dk dX10_judge_0 22 rfl) ?_
        have hn7 : kd n7 = 3 := rX10_shelfAt hc
        refine k_aload_n C (dk dX10_judge_0 23 rfl) rfl 1 rfl ?_
        refine k_getR (q := 1) (D := RX10) (T := TX10) (N := 9) (ci := 5) (k := 0) C iCX10 rfl (by decide) rfl (by decide) (iW0 _ (List.mem_of_getElem? (i := 16) rfl)) rfl (dk dX10_judge_0 24 rfl) ?_
        refine cl2_k h (fun x9 s8 hc h => ?_)
        refine k_cs (As := [.ref (g.2.2 n7), .ref (g.2.2 1)]) (st := []) C (qX9_firstWrongPlace l g hg hn7 rfl hc) (iW32 _ (List.mem_of_getElem? (i := 12) rfl)) (iW32 _ (List.mem_of_getElem? (i := 13) rfl)) (iW0 _ (List.mem_of_getElem? (i := 25) rfl)) (iW32 _ (List.mem_of_getElem? (i := 14) rfl)) rfl rfl hdX9_firstWrongPlace (by decide) rfl rfl (Nat.le_of_ble_eq_true rfl) (dk dX10_judge_0 25 rfl) ?_
        exact k_iret E (dk dX10_judge_0 26 rfl) h
      ·
        refine k_iload_n C (dk dX10_judge_0 18 rfl) rfl 0 rfl ?_
        refine k_goto (tgt := 50) C (dk dX10_judge_0 19 rfl) (by decide) ?_
        exact k_iret E (dk dX10_judge_0 26 rfl) h
    ·
      refine k_bipush (v := (-3 : Int32)) C (dk dX10_judge_0 10 rfl) (by decide) ?_
      exact k_iret E (dk dX10_judge_0 11 rfl) h
  ·
    refine k_iconst (v := (-1 : Int32)) C (dk dX10_judge_0 3 rfl) (by decide) ?_
    exact k_iret E (dk dX10_judge_0 4 rfl) h
set_option maxRecDepth 100000 in
set_option maxHeartbeats 4000000 in
theorem qX10_nextSeed (l : Launch) (g : G) (hg : gOK g) {a0 : Int32}  {s0 σe : St} {v : Int32} (h : mX10_nextSeed a0 s0 = some (v, σe)) : Mc l g yX10_nextSeed cX10_nextSeed 1 (some .int) { frames := 0, cells := 0, slots := 0, locals := 0 } [.int a0] s0 (some (.int v)) σe := by
  refine k_enter hg pnRX10 rfl (Nat.le_of_ble_eq_true rfl) ?_
  intro WK E
  have C := kX_y E
  unfold mX10_nextSeed at h
  show WK 0 [(0, .int a0)] [] s0
  refine k_iload_n C (dk dX10_nextSeed_0 0 rfl) rfl 0 rfl ?_
  refine k_ldcw (v := (1103515245 : Int32)) C (dk dX10_nextSeed_0 1 rfl) (iW33 _ (List.mem_of_getElem? (i := 18) rfl)) ?_
  refine k_imul C (dk dX10_nextSeed_0 2 rfl) ?_
  refine k_sipush (v := (12345 : Int32)) C (dk dX10_nextSeed_0 3 rfl) (by decide) ?_
  refine k_iadd C (dk dX10_nextSeed_0 4 rfl) ?_
  exact k_iret E (dk dX10_nextSeed_0 5 rfl) h
set_option maxRecDepth 100000 in
set_option maxHeartbeats 4000000 in
theorem qX10_drawOf (l : Launch) (g : G) (hg : gOK g) {a0 : Int32}  {s0 σe : St} {v : Int32} (h : mX10_drawOf a0 s0 = some (v, σe)) : Mc l g yX10_drawOf cX10_drawOf 1 (some .int) { frames := 0, cells := 0, slots := 0, locals := 0 } [.int a0] s0 (some (.int v)) σe := by
  refine k_enter hg pnRX10 rfl (Nat.le_of_ble_eq_true rfl) ?_
  intro WK E
  have C := kX_y E
  unfold mX10_drawOf at h
  show WK 0 [(0, .int a0)] [] s0
  refine k_iload_n C (dk dX10_drawOf_0 0 rfl) rfl 0 rfl ?_
  refine k_ldcw (v := (2147483647 : Int32)) C (dk dX10_drawOf_0 1 rfl) (iW33 _ (List.mem_of_getElem? (i := 22) rfl)) ?_
  refine k_iand C (dk dX10_drawOf_0 2 rfl) ?_
  refine k_ldcw (v := (65536 : Int32)) C (dk dX10_drawOf_0 3 rfl) (iW33 _ (List.mem_of_getElem? (i := 23) rfl)) ?_
  refine k_idiv C (dk dX10_drawOf_0 4 rfl) (by decide) ?_
  refine k_iconst (v := (5 : Int32)) C (dk dX10_drawOf_0 5 rfl) (by decide) ?_
  refine k_irem C (dk dX10_drawOf_0 6 rfl) (by decide) ?_
  exact k_iret E (dk dX10_drawOf_0 7 rfl) h
set_option maxRecDepth 100000 in
set_option maxHeartbeats 4000000 in
theorem qX10_seeds (l : Launch) (g : G) (hg : gOK g) {a1 : Int32} {a2 : Int32} {a3 : Int32}  {s0 σe : St} {v : Int32} (h : mX10_seeds a1 a2 a3 s0 = some (v, σe)) : Mc l g yX10_seeds cX10_seeds 9 (some .int) { frames := 4, cells := 0, slots := 0, locals := 90 } [.ref (g.2.2 0), .int a1, .int a2, .int a3] s0 (some (.int v)) σe := by
  refine k_enter hg pnRX10 rfl (Nat.le_of_ble_eq_true rfl) ?_
  intro WK E
  have C := kX_y E
  unfold mX10_seeds at h
  show WK 0 [(0, .ref (g.2.2 0)), (1, .int a1), (2, .int a2), (3, .int a3)] [] s0
  refine k_iload_n C (dk dX10_seeds_0 0 rfl) rfl 1 rfl ?_
  refine k_iconst (v := (1 : Int32)) C (dk dX10_seeds_0 1 rfl) (by decide) ?_
  refine k_icmp_lt (tgt := 18) C (dk dX10_seeds_0 2 rfl) (by decide) h (fun h => ?_) (fun h => ?_)
  ·
    refine k_iconst (v := (-1 : Int32)) C (dk dX10_seeds_0 9 rfl) (by decide) ?_
    exact k_iret E (dk dX10_seeds_0 10 rfl) h
  ·
    refine k_iload_n C (dk dX10_seeds_0 3 rfl) rfl 1 rfl ?_
    refine k_bipush (v := (20 : Int32)) C (dk dX10_seeds_0 4 rfl) (by decide) ?_
    refine k_icmp_gt (tgt := 18) C (dk dX10_seeds_0 5 rfl) (by decide) h (fun h => ?_) (fun h => ?_)
    ·
      refine k_iconst (v := (-1 : Int32)) C (dk dX10_seeds_0 9 rfl) (by decide) ?_
      exact k_iret E (dk dX10_seeds_0 10 rfl) h
    ·
      refine k_iload_n C (dk dX10_seeds_0 6 rfl) rfl 3 rfl ?_
      refine cl2_k h (fun x2 s1 hc h => ?_)
      refine k_cs (As := [.int a3]) (st := []) C (qX10_isEither l g hg hc) (iW12 _ (List.mem_of_getElem? (i := 24) rfl)) (iW6 _ (List.mem_of_getElem? (i := 22) rfl)) (iW0 _ (List.mem_of_getElem? (i := 2) rfl)) (iW6 _ (List.mem_of_getElem? (i := 23) rfl)) rfl rfl hdX10_isEither (by decide) rfl rfl (Nat.le_of_ble_eq_true rfl) (dk dX10_seeds_0 7 rfl) ?_
      refine k_if_ne (tgt := 20) C (dk dX10_seeds_0 8 rfl) (by decide) h (fun h => ?_) (fun h => ?_)
      ·
        refine k_aload_n C (dk dX10_seeds_0 11 rfl) rfl 0 rfl ?_
        refine k_getR (q := 1) (D := RX10) (T := TX10) (N := 9) (ci := 5) (k := 0) C iCX10 rfl (by decide) rfl (by decide) (iW0 _ (List.mem_of_getElem? (i := 16) rfl)) rfl (dk dX10_seeds_0 12 rfl) ?_
        refine cl2_k h (fun x4 s3 hc h => ?_)
        refine k_cv (T := TX3) (N := 10) (ci := 1) (ob := 1) (As := []) (st := []) C (qX3_bothStand l g hg rfl hc) (iW19 _ (List.mem_of_getElem? (i := 19) rfl)) (iW19 _ (List.mem_of_getElem? (i := 20) rfl)) (iW19 _ (List.mem_of_getElem? (i := 21) rfl)) (iW0 _ (List.mem_of_getElem? (i := 15) rfl)) (iW19 _ (List.mem_of_getElem? (i := 22) rfl)) rfl rfl hdX3_bothStand (by decide) rfl (by decide) rfl rfl rfl (Nat.le_of_ble_eq_true rfl) (dk dX10_seeds_0 13 rfl) ?_
        refine k_if_ne (tgt := 33) C (dk dX10_seeds_0 14 rfl) (by decide) h (fun h => ?_) (fun h => ?_)
        ·
          refine k_aload_n C (dk dX10_seeds_0 17 rfl) rfl 0 rfl ?_
          refine k_getR (q := 3) (D := RX10) (T := TX10) (N := 9) (ci := 5) (k := 2) C iCX10 rfl (by decide) rfl (by decide) (iW0 _ (List.mem_of_getElem? (i := 18) rfl)) rfl (dk dX10_seeds_0 18 rfl) ?_
          refine k_aload_n C (dk dX10_seeds_0 19 rfl) rfl 0 rfl ?_
          refine k_getR (q := 1) (D := RX10) (T := TX10) (N := 9) (ci := 5) (k := 0) C iCX10 rfl (by decide) rfl (by decide) (iW0 _ (List.mem_of_getElem? (i := 16) rfl)) rfl (dk dX10_seeds_0 20 rfl) ?_
          refine cl1_k h (fun s5 hc h => ?_)
          refine k_cv (T := TX3) (N := 10) (ci := 1) (ob := 3) (As := [.ref (g.2.2 1)]) (st := []) C (qX3_becomes l g hg rfl rfl hc) (iW4 _ (List.mem_of_getElem? (i := 27) rfl)) (iW4 _ (List.mem_of_getElem? (i := 28) rfl)) (iW4 _ (List.mem_of_getElem? (i := 29) rfl)) (iW0 _ (List.mem_of_getElem? (i := 15) rfl)) (iW5 _ (List.mem_of_getElem? (i := 0) rfl)) rfl rfl hdX3_becomes (by decide) rfl (by decide) rfl rfl rfl (Nat.le_of_ble_eq_true rfl) (dk dX10_seeds_0 21 rfl) ?_
          refine k_aload_n C (dk dX10_seeds_0 22 rfl) rfl 0 rfl ?_
          refine k_getR (q := 3) (D := RX10) (T := TX10) (N := 9) (ci := 5) (k := 2) C iCX10 rfl (by decide) rfl (by decide) (iW0 _ (List.mem_of_getElem? (i := 18) rfl)) rfl (dk dX10_seeds_0 23 rfl) ?_
          refine k_iconst (v := (0 : Int32)) C (dk dX10_seeds_0 24 rfl) (by decide) ?_
          refine k_putI (D := RX3) (T := TX3) (N := 10) (ci := 1) (k := 8) C iCX3 tyX3_ok nmX3 rfl (by decide) rfl (by decide) (iW33 _ (List.mem_of_getElem? (i := 13) rfl)) rfl rfl flq1_8 flp1_8 (dk dX10_seeds_0 25 rfl) h (fun s6 h => ?_)
          refine k_aload_n C (dk dX10_seeds_0 26 rfl) rfl 0 rfl ?_
          refine k_getR (q := 3) (D := RX10) (T := TX10) (N := 9) (ci := 5) (k := 2) C iCX10 rfl (by decide) rfl (by decide) (iW0 _ (List.mem_of_getElem? (i := 18) rfl)) rfl (dk dX10_seeds_0 27 rfl) ?_
          refine k_iconst (v := (0 : Int32)) C (dk dX10_seeds_0 28 rfl) (by decide) ?_
          refine k_putI (D := RX3) (T := TX3) (N := 10) (ci := 1) (k := 9) C iCX3 tyX3_ok nmX3 rfl (by decide) rfl (by decide) (iW33 _ (List.mem_of_getElem? (i := 14) rfl)) rfl rfl flq1_9 flp1_9 (dk dX10_seeds_0 29 rfl) h (fun s7 h => ?_)
          refine k_iload_n C (dk dX10_seeds_0 30 rfl) rfl 2 rfl ?_
          refine k_istore (lv' := [(4, .int a2), (0, .ref (g.2.2 0)), (1, .int a1), (2, .int a2), (3, .int a3)]) C (dk dX10_seeds_0 31 rfl) (by decide) rfl ?_
          refine k_iconst (v := (0 : Int32)) C (dk dX10_seeds_1 0 rfl) (by decide) ?_
          refine k_istore (lv' := [(5, .int (0 : Int32)), (4, .int a2), (0, .ref (g.2.2 0)), (1, .int a1), (2, .int a2), (3, .int a3)]) C (dk dX10_seeds_1 1 rfl) (by decide) rfl ?_
          refine kl_L (P := (fun J66 => ∀ (y8 : Int32) (y9 : Int32) (s10 : St), J66 y8 y9 s10 = some (v, σe) → WK 66 [(0, .ref (g.2.2 0)), (1, .int a1), (3, .int a3), (4, .int y8), (5, .int y9)] [] s10)) h (fun _ _ _ h => nomatch h) (fun J66 hJ66 y8 y9 s10 h => ?_) (fun J66 hJ66 h => ?_)
          ·
            unfold mX10_seeds_66 at h
            refine k_iload C (dk dX10_seeds_1 2 rfl) 4 rfl ?_
            refine k_iload_n C (dk dX10_seeds_1 3 rfl) rfl 1 rfl ?_
            refine k_icmp_ge (tgt := 189) C (dk dX10_seeds_1 4 rfl) (by decide) h (fun h => ?_) (fun h => ?_)
            ·
              refine k_iload_n C (dk dX10_seeds_2 23 rfl) rfl 2 rfl ?_
              refine k_if_ne (tgt := 203) C (dk dX10_seeds_2 24 rfl) (by decide) h (fun h => ?_) (fun h => ?_)
              ·
                refine k_aload_n C (dk dX10_seeds_2 29 rfl) rfl 0 rfl ?_
                refine k_getR (q := 3) (D := RX10) (T := TX10) (N := 9) (ci := 5) (k := 2) C iCX10 rfl (by decide) rfl (by decide) (iW0 _ (List.mem_of_getElem? (i := 18) rfl)) rfl (dk dX10_seeds_2 30 rfl) ?_
                refine k_getI (D := RX3) (T := TX3) (N := 10) (ci := 1) (k := 9) C iCX3 rfl (by decide) rfl (by decide) (iW33 _ (List.mem_of_getElem? (i := 14) rfl)) rfl (dk dX10_seeds_2 31 rfl) h (fun x11 h => ?_)
                exact k_iret E (dk dX10_seeds_3 0 rfl) h
              ·
                refine k_aload_n C (dk dX10_seeds_2 25 rfl) rfl 0 rfl ?_
                refine k_getR (q := 3) (D := RX10) (T := TX10) (N := 9) (ci := 5) (k := 2) C iCX10 rfl (by decide) rfl (by decide) (iW0 _ (List.mem_of_getElem? (i := 18) rfl)) rfl (dk dX10_seeds_2 26 rfl) ?_
                refine k_getI (D := RX3) (T := TX3) (N := 10) (ci := 1) (k := 8) C iCX3 rfl (by decide) rfl (by decide) (iW33 _ (List.mem_of_getElem? (i := 13) rfl)) rfl (dk dX10_seeds_2 27 rfl) h (fun x12 h => ?_)
                refine k_goto (tgt := 210) C (dk dX10_seeds_2 28 rfl) (by decide) ?_
                exact k_iret E (dk dX10_seeds_3 0 rfl) h
            ·
              refine k_aload_n C (dk dX10_seeds_1 5 rfl) rfl 0 rfl ?_
              refine k_getR (q := 3) (D := RX10) (T := TX10) (N := 9) (ci := 5) (k := 2) C iCX10 rfl (by decide) rfl (by decide) (iW0 _ (List.mem_of_getElem? (i := 18) rfl)) rfl (dk dX10_seeds_1 6 rfl) ?_
              refine k_aload_n C (dk dX10_seeds_1 7 rfl) rfl 0 rfl ?_
              refine k_getR (q := 1) (D := RX10) (T := TX10) (N := 9) (ci := 5) (k := 0) C iCX10 rfl (by decide) rfl (by decide) (iW0 _ (List.mem_of_getElem? (i := 16) rfl)) rfl (dk dX10_seeds_1 8 rfl) ?_
              refine k_getI (D := RX3) (T := TX3) (N := 10) (ci := 1) (k := 5) C iCX3 rfl (by decide) rfl (by decide) (iW12 _ (List.mem_of_getElem? (i := 22) rfl)) rfl (dk dX10_seeds_1 9 rfl) h (fun x13 h => ?_)
              refine k_putI (D := RX3) (T := TX3) (N := 10) (ci := 1) (k := 5) C iCX3 tyX3_ok nmX3 rfl (by decide) rfl (by decide) (iW12 _ (List.mem_of_getElem? (i := 22) rfl)) rfl rfl flq1_5 flp1_5 (dk dX10_seeds_1 10 rfl) h (fun s14 h => ?_)
              refine k_aload_n C (dk dX10_seeds_1 11 rfl) rfl 0 rfl ?_
              refine k_getR (q := 3) (D := RX10) (T := TX10) (N := 9) (ci := 5) (k := 2) C iCX10 rfl (by decide) rfl (by decide) (iW0 _ (List.mem_of_getElem? (i := 18) rfl)) rfl (dk dX10_seeds_1 12 rfl) ?_
              refine k_aload_n C (dk dX10_seeds_1 13 rfl) rfl 0 rfl ?_
              refine k_getR (q := 1) (D := RX10) (T := TX10) (N := 9) (ci := 5) (k := 0) C iCX10 rfl (by decide) rfl (by decide) (iW0 _ (List.mem_of_getElem? (i := 16) rfl)) rfl (dk dX10_seeds_1 14 rfl) ?_
              refine k_getI (D := RX3) (T := TX3) (N := 10) (ci := 1) (k := 6) C iCX3 rfl (by decide) rfl (by decide) (iW12 _ (List.mem_of_getElem? (i := 23) rfl)) rfl (dk dX10_seeds_1 15 rfl) h (fun x15 h => ?_)
              refine k_putI (D := RX3) (T := TX3) (N := 10) (ci := 1) (k := 6) C iCX3 tyX3_ok nmX3 rfl (by decide) rfl (by decide) (iW12 _ (List.mem_of_getElem? (i := 23) rfl)) rfl rfl flq1_6 flp1_6 (dk dX10_seeds_1 16 rfl) h (fun s16 h => ?_)
              refine k_iconst (v := (0 : Int32)) C (dk dX10_seeds_1 17 rfl) (by decide) ?_
              refine k_istore (lv' := [(6, .int (0 : Int32)), (0, .ref (g.2.2 0)), (1, .int a1), (3, .int a3), (4, .int y8), (5, .int y9)]) C (dk dX10_seeds_1 18 rfl) (by decide) rfl ?_
              refine kl_L (P := (fun J103 => ∀ (y17 : Int32) (y18 : Int32) (s19 : St), J103 y17 y18 s19 = some (v, σe) → WK 103 [(0, .ref (g.2.2 0)), (1, .int a1), (3, .int a3), (4, .int y17), (5, .int y9), (6, .int y18)] [] s19)) h (fun _ _ _ h => nomatch h) (fun J103 hJ103 y17 y18 s19 h => ?_) (fun J103 hJ103 h => ?_)
              ·
                unfold mX10_seeds_103 at h
                refine k_iload C (dk dX10_seeds_1 19 rfl) 5 rfl ?_
                refine k_bipush (v := (20 : Int32)) C (dk dX10_seeds_1 20 rfl) (by decide) ?_
                refine k_icmp_ge (tgt := 183) C (dk dX10_seeds_1 21 rfl) (by decide) h (fun h => ?_) (fun h => ?_)
                ·
                  refine k_iinc (lv' := [(5, .int (y9 + 1)), (0, .ref (g.2.2 0)), (1, .int a1), (3, .int a3), (4, .int y17), (6, .int y18)]) C (dk dX10_seeds_2 21 rfl) (j := 4) rfl rfl (by decide) rfl ?_
                  refine k_goto (tgt := 66) C (dk dX10_seeds_2 22 rfl) (by decide) ?_
                  refine k_sub C [1, 2, 3, 4, 0] rfl ?_
                  exact hJ66 _ _ _ h
                ·
                  refine k_iload C (dk dX10_seeds_1 22 rfl) 3 rfl ?_
                  refine cl2_k h (fun x21 s20 hc h => ?_)
                  refine k_cs (As := [.int y17]) (st := []) C (qX10_nextSeed l g hg hc) (iW33 _ (List.mem_of_getElem? (i := 15) rfl)) (iW33 _ (List.mem_of_getElem? (i := 16) rfl)) (iW0 _ (List.mem_of_getElem? (i := 2) rfl)) (iW33 _ (List.mem_of_getElem? (i := 17) rfl)) rfl rfl hdX10_nextSeed (by decide) rfl rfl (Nat.le_of_ble_eq_true rfl) (dk dX10_seeds_1 23 rfl) ?_
                  refine k_istore (lv' := [(4, .int x21), (0, .ref (g.2.2 0)), (1, .int a1), (3, .int a3), (5, .int y9), (6, .int y18)]) C (dk dX10_seeds_1 24 rfl) (by decide) rfl ?_
                  refine k_aload_n C (dk dX10_seeds_1 25 rfl) rfl 1 rfl ?_
                  refine k_getR (q := 3) (D := RX10) (T := TX10) (N := 9) (ci := 5) (k := 2) C iCX10 rfl (by decide) rfl (by decide) (iW0 _ (List.mem_of_getElem? (i := 18) rfl)) rfl (dk dX10_seeds_1 26 rfl) ?_
                  refine k_aload_n C (dk dX10_seeds_1 27 rfl) rfl 1 rfl ?_
                  refine k_getR (q := 3) (D := RX10) (T := TX10) (N := 9) (ci := 5) (k := 2) C iCX10 rfl (by decide) rfl (by decide) (iW0 _ (List.mem_of_getElem? (i := 18) rfl)) rfl (dk dX10_seeds_1 28 rfl) ?_
                  refine k_getI (D := RX3) (T := TX3) (N := 10) (ci := 1) (k := 5) C iCX3 rfl (by decide) rfl (by decide) (iW12 _ (List.mem_of_getElem? (i := 22) rfl)) rfl (dk dX10_seeds_1 29 rfl) h (fun x22 h => ?_)
                  refine k_iload C (dk dX10_seeds_1 30 rfl) 0 rfl ?_
                  refine cl2_k h (fun x24 s23 hc h => ?_)
                  refine k_cs (As := [.int x21]) (st := [.int x22, .ref (g.2.2 3)]) C (qX10_drawOf l g hg hc) (iW33 _ (List.mem_of_getElem? (i := 19) rfl)) (iW33 _ (List.mem_of_getElem? (i := 20) rfl)) (iW0 _ (List.mem_of_getElem? (i := 2) rfl)) (iW33 _ (List.mem_of_getElem? (i := 21) rfl)) rfl rfl hdX10_drawOf (by decide) rfl rfl (Nat.le_of_ble_eq_true rfl) (dk dX10_seeds_1 31 rfl) ?_
                  refine cl2_k h (fun x26 s25 hc h => ?_)
                  refine k_cv (T := TX3) (N := 10) (ci := 1) (ob := 3) (As := [.int x22, .int x24]) (st := []) C (qX3_cellByOrStay l g hg rfl hc) (iW33 _ (List.mem_of_getElem? (i := 24) rfl)) (iW33 _ (List.mem_of_getElem? (i := 25) rfl)) (iW33 _ (List.mem_of_getElem? (i := 26) rfl)) (iW0 _ (List.mem_of_getElem? (i := 15) rfl)) (iW33 _ (List.mem_of_getElem? (i := 27) rfl)) rfl rfl hdX3_cellByOrStay (by decide) rfl (by decide) rfl rfl rfl (Nat.le_of_ble_eq_true rfl) (dk dX10_seeds_2 0 rfl) ?_
                  refine k_istore (lv' := [(7, .int x26), (4, .int x21), (0, .ref (g.2.2 0)), (1, .int a1), (3, .int a3), (5, .int y9), (6, .int y18)]) C (dk dX10_seeds_2 1 rfl) (by decide) rfl ?_
                  refine k_iload C (dk dX10_seeds_2 2 rfl) 1 rfl ?_
                  refine cl2_k h (fun x28 s27 hc h => ?_)
                  refine k_cs (As := [.int x21]) (st := []) C (qX10_nextSeed l g hg hc) (iW33 _ (List.mem_of_getElem? (i := 15) rfl)) (iW33 _ (List.mem_of_getElem? (i := 16) rfl)) (iW0 _ (List.mem_of_getElem? (i := 2) rfl)) (iW33 _ (List.mem_of_getElem? (i := 17) rfl)) rfl rfl hdX10_nextSeed (by decide) rfl rfl (Nat.le_of_ble_eq_true rfl) (dk dX10_seeds_2 3 rfl) ?_
                  refine k_istore (lv' := [(4, .int x28), (7, .int x26), (0, .ref (g.2.2 0)), (1, .int a1), (3, .int a3), (5, .int y9), (6, .int y18)]) C (dk dX10_seeds_2 4 rfl) (by decide) rfl ?_
                  refine k_aload_n C (dk dX10_seeds_2 5 rfl) rfl 2 rfl ?_
                  refine k_getR (q := 3) (D := RX10) (T := TX10) (N := 9) (ci := 5) (k := 2) C iCX10 rfl (by decide) rfl (by decide) (iW0 _ (List.mem_of_getElem? (i := 18) rfl)) rfl (dk dX10_seeds_2 6 rfl) ?_
                  refine k_aload_n C (dk dX10_seeds_2 7 rfl) rfl 2 rfl ?_
                  refine k_getR (q := 3) (D := RX10) (T := TX10) (N := 9) (ci := 5) (k := 2) C iCX10 rfl (by decide) rfl (by decide) (iW0 _ (List.mem_of_getElem? (i := 18) rfl)) rfl (dk dX10_seeds_2 8 rfl) ?_
                  refine k_getI (D := RX3) (T := TX3) (N := 10) (ci := 1) (k := 6) C iCX3 rfl (by decide) rfl (by decide) (iW12 _ (List.mem_of_getElem? (i := 23) rfl)) rfl (dk dX10_seeds_2 9 rfl) h (fun x29 h => ?_)
                  refine k_iload C (dk dX10_seeds_2 10 rfl) 0 rfl ?_
                  refine cl2_k h (fun x31 s30 hc h => ?_)
                  refine k_cs (As := [.int x28]) (st := [.int x29, .ref (g.2.2 3)]) C (qX10_drawOf l g hg hc) (iW33 _ (List.mem_of_getElem? (i := 19) rfl)) (iW33 _ (List.mem_of_getElem? (i := 20) rfl)) (iW0 _ (List.mem_of_getElem? (i := 2) rfl)) (iW33 _ (List.mem_of_getElem? (i := 21) rfl)) rfl rfl hdX10_drawOf (by decide) rfl rfl (Nat.le_of_ble_eq_true rfl) (dk dX10_seeds_2 11 rfl) ?_
                  refine cl2_k h (fun x33 s32 hc h => ?_)
                  refine k_cv (T := TX3) (N := 10) (ci := 1) (ob := 3) (As := [.int x29, .int x31]) (st := []) C (qX3_cellByOrStay l g hg rfl hc) (iW33 _ (List.mem_of_getElem? (i := 24) rfl)) (iW33 _ (List.mem_of_getElem? (i := 25) rfl)) (iW33 _ (List.mem_of_getElem? (i := 26) rfl)) (iW0 _ (List.mem_of_getElem? (i := 15) rfl)) (iW33 _ (List.mem_of_getElem? (i := 27) rfl)) rfl rfl hdX3_cellByOrStay (by decide) rfl (by decide) rfl rfl rfl (Nat.le_of_ble_eq_true rfl) (dk dX10_seeds_2 12 rfl) ?_
                  refine k_istore (lv' := [(8, .int x33), (4, .int x28), (7, .int x26), (0, .ref (g.2.2 0)), (1, .int a1), (3, .int a3), (5, .int y9), (6, .int y18)]) C (dk dX10_seeds_2 13 rfl) (by decide) rfl ?_
                  refine k_aload_n C (dk dX10_seeds_2 14 rfl) rfl 3 rfl ?_
                  refine k_getR (q := 3) (D := RX10) (T := TX10) (N := 9) (ci := 5) (k := 2) C iCX10 rfl (by decide) rfl (by decide) (iW0 _ (List.mem_of_getElem? (i := 18) rfl)) rfl (dk dX10_seeds_2 15 rfl) ?_
                  refine k_iload C (dk dX10_seeds_2 16 rfl) 2 rfl ?_
                  refine k_iload C (dk dX10_seeds_2 17 rfl) 0 rfl ?_
                  refine cl1_k h (fun s34 hc h => ?_)
                  refine k_cv (T := TX3) (N := 10) (ci := 1) (ob := 3) (As := [.int x26, .int x33]) (st := []) C (qX3_endDay l g hg rfl hc) (iW33 _ (List.mem_of_getElem? (i := 28) rfl)) (iW7 _ (List.mem_of_getElem? (i := 8) rfl)) (iW7 _ (List.mem_of_getElem? (i := 9) rfl)) (iW0 _ (List.mem_of_getElem? (i := 15) rfl)) (iW7 _ (List.mem_of_getElem? (i := 10) rfl)) rfl rfl hdX3_endDay (by decide) rfl (by decide) rfl rfl rfl (Nat.le_of_ble_eq_true rfl) (dk dX10_seeds_2 18 rfl) ?_
                  refine k_iinc (lv' := [(6, .int (y18 + 1)), (8, .int x33), (4, .int x28), (7, .int x26), (0, .ref (g.2.2 0)), (1, .int a1), (3, .int a3), (5, .int y9)]) C (dk dX10_seeds_2 19 rfl) (j := 7) rfl rfl (by decide) rfl ?_
                  refine k_goto (tgt := 103) C (dk dX10_seeds_2 20 rfl) (by decide) ?_
                  refine k_sub C [4, 5, 6, 2, 7, 0] rfl ?_
                  exact hJ103 _ _ _ h
              ·
                refine k_sub C [1, 2, 3, 4, 5, 0] rfl ?_
                exact hJ103 _ _ _ h
          ·
            refine k_sub C [2, 3, 5, 1, 0] rfl ?_
            exact hJ66 _ _ _ h
        ·
          refine k_bipush (v := (-3 : Int32)) C (dk dX10_seeds_0 15 rfl) (by decide) ?_
          exact k_iret E (dk dX10_seeds_0 16 rfl) h
      ·
        refine k_iconst (v := (-1 : Int32)) C (dk dX10_seeds_0 9 rfl) (by decide) ?_
        exact k_iret E (dk dX10_seeds_0 10 rfl) h
set_option maxRecDepth 100000 in
set_option maxHeartbeats 4000000 in
theorem qX10_image (l : Launch) (g : G) (hg : gOK g)   {s0 σe : St} {v : Int32} (h : mX10_image s0 = some (v, σe)) : Mc l g yX10_image cX10_image 1 (some .int) { frames := 1, cells := 0, slots := 0, locals := 22 } [.ref (g.2.2 0)] s0 (some (.int v)) σe := by
  refine k_enter hg pnRX10 rfl (Nat.le_of_ble_eq_true rfl) ?_
  intro WK E
  have C := kX_y E
  unfold mX10_image at h
  show WK 0 [(0, .ref (g.2.2 0))] [] s0
  refine k_aload_n C (dk dX10_image_0 0 rfl) rfl 0 rfl ?_
  refine k_getR (q := 2) (D := RX10) (T := TX10) (N := 9) (ci := 5) (k := 1) C iCX10 rfl (by decide) rfl (by decide) (iW0 _ (List.mem_of_getElem? (i := 17) rfl)) rfl (dk dX10_image_0 1 rfl) ?_
  refine k_aload_n C (dk dX10_image_0 2 rfl) rfl 0 rfl ?_
  refine k_getR (q := 1) (D := RX10) (T := TX10) (N := 9) (ci := 5) (k := 0) C iCX10 rfl (by decide) rfl (by decide) (iW0 _ (List.mem_of_getElem? (i := 16) rfl)) rfl (dk dX10_image_0 3 rfl) ?_
  refine cl1_k h (fun s1 hc h => ?_)
  refine k_cv (T := TX3) (N := 10) (ci := 1) (ob := 2) (As := [.ref (g.2.2 1)]) (st := []) C (qX3_becomes l g hg rfl rfl hc) (iW4 _ (List.mem_of_getElem? (i := 27) rfl)) (iW4 _ (List.mem_of_getElem? (i := 28) rfl)) (iW4 _ (List.mem_of_getElem? (i := 29) rfl)) (iW0 _ (List.mem_of_getElem? (i := 15) rfl)) (iW5 _ (List.mem_of_getElem? (i := 0) rfl)) rfl rfl hdX3_becomes (by decide) rfl (by decide) rfl rfl rfl (Nat.le_of_ble_eq_true rfl) (dk dX10_image_0 4 rfl) ?_
  refine k_aload_n C (dk dX10_image_0 5 rfl) rfl 0 rfl ?_
  refine k_iconst (v := (1 : Int32)) C (dk dX10_image_0 6 rfl) (by decide) ?_
  refine k_putZ (D := RX10) (T := TX10) (N := 9) (ci := 5) (k := 3) C iCX10 tyX10_ok nmX10 rfl (by decide) rfl (by decide) (iW34 _ (List.mem_of_getElem? (i := 15) rfl)) rfl rfl flq5_3 flp5_3 (dk dX10_image_0 7 rfl) h (fun s2 h => ?_)
  refine k_aload_n C (dk dX10_image_0 8 rfl) rfl 0 rfl ?_
  refine k_getR (q := 1) (D := RX10) (T := TX10) (N := 9) (ci := 5) (k := 0) C iCX10 rfl (by decide) rfl (by decide) (iW0 _ (List.mem_of_getElem? (i := 16) rfl)) rfl (dk dX10_image_0 9 rfl) ?_
  refine k_getI (D := RX3) (T := TX3) (N := 10) (ci := 1) (k := 7) C iCX3 rfl (by decide) rfl (by decide) (iW34 _ (List.mem_of_getElem? (i := 16) rfl)) rfl (dk dX10_image_0 10 rfl) h (fun x3 h => ?_)
  exact k_iret E (dk dX10_image_0 11 rfl) h
set_option maxRecDepth 100000 in
set_option maxHeartbeats 4000000 in
theorem qX10_restore (l : Launch) (g : G) (hg : gOK g)   {s0 σe : St} {v : Int32} (h : mX10_restore s0 = some (v, σe)) : Mc l g yX10_restore cX10_restore 1 (some .int) { frames := 1, cells := 0, slots := 0, locals := 22 } [.ref (g.2.2 0)] s0 (some (.int v)) σe := by
  refine k_enter hg pnRX10 rfl (Nat.le_of_ble_eq_true rfl) ?_
  intro WK E
  have C := kX_y E
  unfold mX10_restore at h
  show WK 0 [(0, .ref (g.2.2 0))] [] s0
  refine k_aload_n C (dk dX10_restore_0 0 rfl) rfl 0 rfl ?_
  refine k_getI (D := RX10) (T := TX10) (N := 9) (ci := 5) (k := 3) C iCX10 rfl (by decide) rfl (by decide) (iW34 _ (List.mem_of_getElem? (i := 15) rfl)) rfl (dk dX10_restore_0 1 rfl) h (fun x1 h => ?_)
  refine k_if_ne (tgt := 10) C (dk dX10_restore_0 2 rfl) (by decide) h (fun h => ?_) (fun h => ?_)
  ·
    refine k_aload_n C (dk dX10_restore_0 5 rfl) rfl 0 rfl ?_
    refine k_getR (q := 1) (D := RX10) (T := TX10) (N := 9) (ci := 5) (k := 0) C iCX10 rfl (by decide) rfl (by decide) (iW0 _ (List.mem_of_getElem? (i := 16) rfl)) rfl (dk dX10_restore_0 6 rfl) ?_
    refine k_aload_n C (dk dX10_restore_0 7 rfl) rfl 0 rfl ?_
    refine k_getR (q := 2) (D := RX10) (T := TX10) (N := 9) (ci := 5) (k := 1) C iCX10 rfl (by decide) rfl (by decide) (iW0 _ (List.mem_of_getElem? (i := 17) rfl)) rfl (dk dX10_restore_0 8 rfl) ?_
    refine cl1_k h (fun s2 hc h => ?_)
    refine k_cv (T := TX3) (N := 10) (ci := 1) (ob := 1) (As := [.ref (g.2.2 2)]) (st := []) C (qX3_becomes l g hg rfl rfl hc) (iW4 _ (List.mem_of_getElem? (i := 27) rfl)) (iW4 _ (List.mem_of_getElem? (i := 28) rfl)) (iW4 _ (List.mem_of_getElem? (i := 29) rfl)) (iW0 _ (List.mem_of_getElem? (i := 15) rfl)) (iW5 _ (List.mem_of_getElem? (i := 0) rfl)) rfl rfl hdX3_becomes (by decide) rfl (by decide) rfl rfl rfl (Nat.le_of_ble_eq_true rfl) (dk dX10_restore_0 9 rfl) ?_
    refine k_aload_n C (dk dX10_restore_0 10 rfl) rfl 0 rfl ?_
    refine k_getR (q := 1) (D := RX10) (T := TX10) (N := 9) (ci := 5) (k := 0) C iCX10 rfl (by decide) rfl (by decide) (iW0 _ (List.mem_of_getElem? (i := 16) rfl)) rfl (dk dX10_restore_0 11 rfl) ?_
    refine k_getI (D := RX3) (T := TX3) (N := 10) (ci := 1) (k := 7) C iCX3 rfl (by decide) rfl (by decide) (iW34 _ (List.mem_of_getElem? (i := 16) rfl)) rfl (dk dX10_restore_0 12 rfl) h (fun x3 h => ?_)
    exact k_iret E (dk dX10_restore_0 13 rfl) h
  ·
    refine k_bipush (v := (-3 : Int32)) C (dk dX10_restore_0 3 rfl) (by decide) ?_
    exact k_iret E (dk dX10_restore_0 4 rfl) h
set_option maxRecDepth 100000 in
set_option maxHeartbeats 4000000 in
theorem qX10_count (l : Launch) (g : G) (hg : gOK g) {a1 : Int32}  {s0 σe : St} {v : Int32} (h : mX10_count a1 s0 = some (v, σe)) : Mc l g yX10_count cX10_count 2 (some .int) { frames := 3, cells := 0, slots := 0, locals := 66 } [.ref (g.2.2 0), .int a1] s0 (some (.int v)) σe := by
  refine k_enter hg pnRX10 rfl (Nat.le_of_ble_eq_true rfl) ?_
  intro WK E
  have C := kX_y E
  unfold mX10_count at h
  show WK 0 [(0, .ref (g.2.2 0)), (1, .int a1)] [] s0
  refine k_iload_n C (dk dX10_count_0 0 rfl) rfl 1 rfl ?_
  by_cases e0 : a1 = (0 : Int32)
  · replace h := (if_pos e0).symm.trans h
    refine k_tsIn (q := (0 : Int32)) (tgt := 52) C (dk dX10_count_0 1 rfl) (by decide) (by decide) rfl (by decide) e0 ?_
    refine k_aload_n C (dk dX10_count_0 2 rfl) rfl 0 rfl ?_
    refine k_getR (q := 1) (D := RX10) (T := TX10) (N := 9) (ci := 5) (k := 0) C iCX10 rfl (by decide) rfl (by decide) (iW0 _ (List.mem_of_getElem? (i := 16) rfl)) rfl (dk dX10_count_0 3 rfl) ?_
    refine k_getI (D := RX3) (T := TX3) (N := 10) (ci := 1) (k := 5) C iCX3 rfl (by decide) rfl (by decide) (iW12 _ (List.mem_of_getElem? (i := 22) rfl)) rfl (dk dX10_count_0 4 rfl) h (fun x1 h => ?_)
    exact k_iret E (dk dX10_count_0 5 rfl) h
  replace h := (if_neg e0).symm.trans h
  by_cases e1 : a1 = (1 : Int32)
  · replace h := (if_pos e1).symm.trans h
    refine k_tsIn (q := (1 : Int32)) (tgt := 60) C (dk dX10_count_0 1 rfl) (by decide) (by decide) rfl (by decide) e1 ?_
    refine k_aload_n C (dk dX10_count_0 6 rfl) rfl 0 rfl ?_
    refine k_getR (q := 1) (D := RX10) (T := TX10) (N := 9) (ci := 5) (k := 0) C iCX10 rfl (by decide) rfl (by decide) (iW0 _ (List.mem_of_getElem? (i := 16) rfl)) rfl (dk dX10_count_0 7 rfl) ?_
    refine k_getI (D := RX3) (T := TX3) (N := 10) (ci := 1) (k := 6) C iCX3 rfl (by decide) rfl (by decide) (iW12 _ (List.mem_of_getElem? (i := 23) rfl)) rfl (dk dX10_count_0 8 rfl) h (fun x2 h => ?_)
    exact k_iret E (dk dX10_count_0 9 rfl) h
  replace h := (if_neg e1).symm.trans h
  by_cases e2 : a1 = (2 : Int32)
  · replace h := (if_pos e2).symm.trans h
    refine k_tsIn (q := (2 : Int32)) (tgt := 68) C (dk dX10_count_0 1 rfl) (by decide) (by decide) rfl (by decide) e2 ?_
    refine k_aload_n C (dk dX10_count_0 10 rfl) rfl 0 rfl ?_
    refine k_getR (q := 1) (D := RX10) (T := TX10) (N := 9) (ci := 5) (k := 0) C iCX10 rfl (by decide) rfl (by decide) (iW0 _ (List.mem_of_getElem? (i := 16) rfl)) rfl (dk dX10_count_0 11 rfl) ?_
    refine k_getI (D := RX3) (T := TX3) (N := 10) (ci := 1) (k := 7) C iCX3 rfl (by decide) rfl (by decide) (iW34 _ (List.mem_of_getElem? (i := 16) rfl)) rfl (dk dX10_count_0 12 rfl) h (fun x3 h => ?_)
    exact k_iret E (dk dX10_count_0 13 rfl) h
  replace h := (if_neg e2).symm.trans h
  by_cases e3 : a1 = (3 : Int32)
  · replace h := (if_pos e3).symm.trans h
    refine k_tsIn (q := (3 : Int32)) (tgt := 76) C (dk dX10_count_0 1 rfl) (by decide) (by decide) rfl (by decide) e3 ?_
    refine k_aload_n C (dk dX10_count_0 14 rfl) rfl 0 rfl ?_
    refine k_getR (q := 1) (D := RX10) (T := TX10) (N := 9) (ci := 5) (k := 0) C iCX10 rfl (by decide) rfl (by decide) (iW0 _ (List.mem_of_getElem? (i := 16) rfl)) rfl (dk dX10_count_0 15 rfl) ?_
    refine k_getI (D := RX3) (T := TX3) (N := 10) (ci := 1) (k := 8) C iCX3 rfl (by decide) rfl (by decide) (iW33 _ (List.mem_of_getElem? (i := 13) rfl)) rfl (dk dX10_count_0 16 rfl) h (fun x4 h => ?_)
    exact k_iret E (dk dX10_count_0 17 rfl) h
  replace h := (if_neg e3).symm.trans h
  by_cases e4 : a1 = (4 : Int32)
  · replace h := (if_pos e4).symm.trans h
    refine k_tsIn (q := (4 : Int32)) (tgt := 84) C (dk dX10_count_0 1 rfl) (by decide) (by decide) rfl (by decide) e4 ?_
    refine k_aload_n C (dk dX10_count_0 18 rfl) rfl 0 rfl ?_
    refine k_getR (q := 1) (D := RX10) (T := TX10) (N := 9) (ci := 5) (k := 0) C iCX10 rfl (by decide) rfl (by decide) (iW0 _ (List.mem_of_getElem? (i := 16) rfl)) rfl (dk dX10_count_0 19 rfl) ?_
    refine k_getI (D := RX3) (T := TX3) (N := 10) (ci := 1) (k := 9) C iCX3 rfl (by decide) rfl (by decide) (iW33 _ (List.mem_of_getElem? (i := 14) rfl)) rfl (dk dX10_count_0 20 rfl) h (fun x5 h => ?_)
    exact k_iret E (dk dX10_count_0 21 rfl) h
  replace h := (if_neg e4).symm.trans h
  by_cases e5 : a1 = (5 : Int32)
  · replace h := (if_pos e5).symm.trans h
    refine k_tsIn (q := (5 : Int32)) (tgt := 92) C (dk dX10_count_0 1 rfl) (by decide) (by decide) rfl (by decide) e5 ?_
    refine k_aload_n C (dk dX10_count_0 22 rfl) rfl 0 rfl ?_
    refine k_getR (q := 1) (D := RX10) (T := TX10) (N := 9) (ci := 5) (k := 0) C iCX10 rfl (by decide) rfl (by decide) (iW0 _ (List.mem_of_getElem? (i := 16) rfl)) rfl (dk dX10_count_0 23 rfl) ?_
    refine k_getI (D := RX3) (T := TX3) (N := 10) (ci := 1) (k := 3) C iCX3 rfl (by decide) rfl (by decide) (iW13 _ (List.mem_of_getElem? (i := 4) rfl)) rfl (dk dX10_count_0 24 rfl) h (fun x6 h => ?_)
    exact k_iret E (dk dX10_count_0 25 rfl) h
  replace h := (if_neg e5).symm.trans h
  by_cases e6 : a1 = (6 : Int32)
  · replace h := (if_pos e6).symm.trans h
    refine k_tsIn (q := (6 : Int32)) (tgt := 100) C (dk dX10_count_0 1 rfl) (by decide) (by decide) rfl (by decide) e6 ?_
    refine k_aload_n C (dk dX10_count_0 26 rfl) rfl 0 rfl ?_
    refine k_getR (q := 1) (D := RX10) (T := TX10) (N := 9) (ci := 5) (k := 0) C iCX10 rfl (by decide) rfl (by decide) (iW0 _ (List.mem_of_getElem? (i := 16) rfl)) rfl (dk dX10_count_0 27 rfl) ?_
    refine k_getI (D := RX3) (T := TX3) (N := 10) (ci := 1) (k := 4) C iCX3 rfl (by decide) rfl (by decide) (iW13 _ (List.mem_of_getElem? (i := 5) rfl)) rfl (dk dX10_count_0 28 rfl) h (fun x7 h => ?_)
    exact k_iret E (dk dX10_count_0 29 rfl) h
  replace h := (if_neg e6).symm.trans h
  by_cases e7 : a1 = (7 : Int32)
  · replace h := (if_pos e7).symm.trans h
    refine k_tsIn (q := (7 : Int32)) (tgt := 108) C (dk dX10_count_0 1 rfl) (by decide) (by decide) rfl (by decide) e7 ?_
    refine k_aload_n C (dk dX10_count_0 30 rfl) rfl 0 rfl ?_
    refine k_getR (q := 1) (D := RX10) (T := TX10) (N := 9) (ci := 5) (k := 0) C iCX10 rfl (by decide) rfl (by decide) (iW0 _ (List.mem_of_getElem? (i := 16) rfl)) rfl (dk dX10_count_0 31 rfl) ?_
    refine k_getI (D := RX3) (T := TX3) (N := 10) (ci := 1) (k := 2) C iCX3 rfl (by decide) rfl (by decide) (iW13 _ (List.mem_of_getElem? (i := 6) rfl)) rfl (dk dX10_count_1 0 rfl) h (fun x8 h => ?_)
    exact k_iret E (dk dX10_count_1 1 rfl) h
  replace h := (if_neg e7).symm.trans h
  by_cases e8 : a1 = (8 : Int32)
  · replace h := (if_pos e8).symm.trans h
    refine k_tsIn (q := (8 : Int32)) (tgt := 116) C (dk dX10_count_0 1 rfl) (by decide) (by decide) rfl (by decide) e8 ?_
    refine k_aload_n C (dk dX10_count_1 2 rfl) rfl 0 rfl ?_
    refine k_getR (q := 1) (D := RX10) (T := TX10) (N := 9) (ci := 5) (k := 0) C iCX10 rfl (by decide) rfl (by decide) (iW0 _ (List.mem_of_getElem? (i := 16) rfl)) rfl (dk dX10_count_1 3 rfl) ?_
    refine cl2_k h (fun x10 s9 hc h => ?_)
    refine k_cv (T := TX3) (N := 10) (ci := 1) (ob := 1) (As := []) (st := []) C (qX3_openCells l g hg rfl hc) (iW14 _ (List.mem_of_getElem? (i := 10) rfl)) (iW14 _ (List.mem_of_getElem? (i := 11) rfl)) (iW14 _ (List.mem_of_getElem? (i := 12) rfl)) (iW0 _ (List.mem_of_getElem? (i := 15) rfl)) (iW14 _ (List.mem_of_getElem? (i := 13) rfl)) rfl rfl hdX3_openCells (by decide) rfl (by decide) rfl rfl rfl (Nat.le_of_ble_eq_true rfl) (dk dX10_count_1 4 rfl) ?_
    refine cl2_k h (fun x12 s11 hc h => ?_)
    refine k_cs (As := [.long x10]) (st := []) C (qJ13_bitCount_95d88 l g hg hc) (iW18 _ (List.mem_of_getElem? (i := 14) rfl)) (iW16 _ (List.mem_of_getElem? (i := 20) rfl)) (iW16 _ (List.mem_of_getElem? (i := 21) rfl)) (iW16 _ (List.mem_of_getElem? (i := 22) rfl)) rfl rfl hdJ13_bitCount_95d88 (by decide) rfl rfl (Nat.le_of_ble_eq_true rfl) (dk dX10_count_1 5 rfl) ?_
    exact k_iret E (dk dX10_count_1 6 rfl) h
  replace h := (if_neg e8).symm.trans h
  refine k_tsOut (tgt := 127) C (dk dX10_count_0 1 rfl) (by have n0 : a1.toInt ≠ 0 := fun q => e0 (Int32.toInt_inj.mp (q.trans (by decide))); have n1 : a1.toInt ≠ 1 := fun q => e1 (Int32.toInt_inj.mp (q.trans (by decide))); have n2 : a1.toInt ≠ 2 := fun q => e2 (Int32.toInt_inj.mp (q.trans (by decide))); have n3 : a1.toInt ≠ 3 := fun q => e3 (Int32.toInt_inj.mp (q.trans (by decide))); have n4 : a1.toInt ≠ 4 := fun q => e4 (Int32.toInt_inj.mp (q.trans (by decide))); have n5 : a1.toInt ≠ 5 := fun q => e5 (Int32.toInt_inj.mp (q.trans (by decide))); have n6 : a1.toInt ≠ 6 := fun q => e6 (Int32.toInt_inj.mp (q.trans (by decide))); have n7 : a1.toInt ≠ 7 := fun q => e7 (Int32.toInt_inj.mp (q.trans (by decide))); have n8 : a1.toInt ≠ 8 := fun q => e8 (Int32.toInt_inj.mp (q.trans (by decide))); omega) (by decide) ?_
  refine k_iconst (v := (-1 : Int32)) C (dk dX10_count_1 7 rfl) (by decide) ?_
  exact k_iret E (dk dX10_count_1 8 rfl) h
set_option maxRecDepth 100000 in
set_option maxHeartbeats 4000000 in
theorem qX10_keep (l : Launch) (g : G) (hg : gOK g) {a1 : Int32} {a2 : Int32} {a3 : Int32} {a4 : Int32}  {s0 σe : St} {v : Int32} (h : mX10_keep a1 a2 a3 a4 s0 = some (v, σe)) : Mc l g yX10_keep cX10_keep 5 (some .int) { frames := 1, cells := 0, slots := 0, locals := 22 } [.ref (g.2.2 0), .int a1, .int a2, .int a3, .int a4] s0 (some (.int v)) σe := by
  refine k_enter hg pnRX10 rfl (Nat.le_of_ble_eq_true rfl) ?_
  intro WK E
  have C := kX_y E
  unfold mX10_keep at h
  show WK 0 [(0, .ref (g.2.2 0)), (1, .int a1), (2, .int a2), (3, .int a3), (4, .int a4)] [] s0
  refine k_iload_n C (dk dX10_keep_0 0 rfl) rfl 1 rfl ?_
  refine cl2_k h (fun x2 s1 hc h => ?_)
  refine k_cs (As := [.int a1]) (st := []) C (qX10_isShelf l g hg hc) (iW4 _ (List.mem_of_getElem? (i := 5) rfl)) (iW4 _ (List.mem_of_getElem? (i := 6) rfl)) (iW0 _ (List.mem_of_getElem? (i := 2) rfl)) (iW4 _ (List.mem_of_getElem? (i := 7) rfl)) rfl rfl hdX10_isShelf (by decide) rfl rfl (Nat.le_of_ble_eq_true rfl) (dk dX10_keep_0 1 rfl) ?_
  refine k_if_eq (tgt := 14) C (dk dX10_keep_0 2 rfl) (by decide) h (fun h => ?_) (fun h => ?_)
  ·
    refine k_iconst (v := (-1 : Int32)) C (dk dX10_keep_0 6 rfl) (by decide) ?_
    exact k_iret E (dk dX10_keep_0 7 rfl) h
  ·
    refine k_iload_n C (dk dX10_keep_0 3 rfl) rfl 2 rfl ?_
    refine cl2_k h (fun x4 s3 hc h => ?_)
    refine k_cs (As := [.int a2]) (st := []) C (qX10_isEither l g hg hc) (iW12 _ (List.mem_of_getElem? (i := 24) rfl)) (iW6 _ (List.mem_of_getElem? (i := 22) rfl)) (iW0 _ (List.mem_of_getElem? (i := 2) rfl)) (iW6 _ (List.mem_of_getElem? (i := 23) rfl)) rfl rfl hdX10_isEither (by decide) rfl rfl (Nat.le_of_ble_eq_true rfl) (dk dX10_keep_0 4 rfl) ?_
    refine k_if_ne (tgt := 16) C (dk dX10_keep_0 5 rfl) (by decide) h (fun h => ?_) (fun h => ?_)
    ·
      refine k_iload_n C (dk dX10_keep_0 8 rfl) rfl 2 rfl ?_
      refine k_if_ne (tgt := 31) C (dk dX10_keep_0 9 rfl) (by decide) h (fun h => ?_) (fun h => ?_)
      ·
        refine k_iload_n C (dk dX10_keep_0 17 rfl) rfl 3 rfl ?_
        refine cl2_k h (fun x6 s5 hc h => ?_)
        refine k_cs (As := [.int a3]) (st := []) C (qX2_isKind l g hg hc) (iW35 _ (List.mem_of_getElem? (i := 12) rfl)) (iW5 _ (List.mem_of_getElem? (i := 17) rfl)) (iW5 _ (List.mem_of_getElem? (i := 18) rfl)) (iW5 _ (List.mem_of_getElem? (i := 19) rfl)) rfl rfl hdX2_isKind (by decide) rfl rfl (Nat.le_of_ble_eq_true rfl) (dk dX10_keep_0 18 rfl) ?_
        refine k_if_eq (tgt := 50) C (dk dX10_keep_0 19 rfl) (by decide) h (fun h => ?_) (fun h => ?_)
        ·
          refine k_iconst (v := (-1 : Int32)) C (dk dX10_keep_0 25 rfl) (by decide) ?_
          exact k_iret E (dk dX10_keep_0 26 rfl) h
        ·
          refine k_iload C (dk dX10_keep_0 20 rfl) 4 rfl ?_
          refine k_if_lt (tgt := 50) C (dk dX10_keep_0 21 rfl) (by decide) h (fun h => ?_) (fun h => ?_)
          ·
            refine k_iconst (v := (-1 : Int32)) C (dk dX10_keep_0 25 rfl) (by decide) ?_
            exact k_iret E (dk dX10_keep_0 26 rfl) h
          ·
            refine k_iload C (dk dX10_keep_0 22 rfl) 4 rfl ?_
            refine k_bipush (v := (9 : Int32)) C (dk dX10_keep_0 23 rfl) (by decide) ?_
            refine k_icmp_le (tgt := 52) C (dk dX10_keep_0 24 rfl) (by decide) h (fun h => ?_) (fun h => ?_)
            ·
              refine k_aload_n C (dk dX10_keep_0 27 rfl) rfl 0 rfl ?_
              refine k_iload_n C (dk dX10_keep_0 28 rfl) rfl 1 rfl ?_
              refine cl2_k h (fun n8 s7 hc h => ?_)
              refine k_cv (T := TX10) (N := 9) (ci := 5) (ob := 0) (As := [.int a1]) (st := []) C (qX10_shelfAt l g hg hc) (iW4 _ (List.mem_of_getElem? (i := 8) rfl)) (iW4 _ (List.mem_of_getElem? (i := 9) rfl)) (iW4 _ (List.mem_of_getElem? (i := 10) rfl)) (iW0 _ (List.mem_of_getElem? (i := 2) rfl)) (iW4 _ (List.mem_of_getElem? (i := 11) rfl)) rfl rfl hdX10_shelfAt (by decide) rfl (by decide) rfl rfl rfl (Nat.le_of_ble_eq_true rfl) (dk dX10_keep_0 29 rfl) ?_
              have hn8 : kd n8 = 3 := rX10_shelfAt hc
              refine k_iload_n C (dk dX10_keep_0 30 rfl) rfl 3 rfl ?_
              refine k_iload C (dk dX10_keep_0 31 rfl) 4 rfl ?_
              refine cl1_k h (fun s9 hc h => ?_)
              refine k_cv (T := TX5) (N := 6) (ci := 3) (ob := n8) (As := [.int a3, .int a4]) (st := []) C (qX5_takeGround l g hg hn8 hc) (iW35 _ (List.mem_of_getElem? (i := 13) rfl)) (iW35 _ (List.mem_of_getElem? (i := 14) rfl)) (iW35 _ (List.mem_of_getElem? (i := 15) rfl)) (iW1 _ (List.mem_of_getElem? (i := 3) rfl)) (iW35 _ (List.mem_of_getElem? (i := 16) rfl)) rfl rfl hdX5_takeGround (by decide) hn8 (by decide) rfl rfl rfl (Nat.le_of_ble_eq_true rfl) (dk dX10_keep_1 0 rfl) ?_
              refine k_iconst (v := (0 : Int32)) C (dk dX10_keep_1 1 rfl) (by decide) ?_
              exact k_iret E (dk dX10_keep_1 2 rfl) h
            ·
              refine k_iconst (v := (-1 : Int32)) C (dk dX10_keep_0 25 rfl) (by decide) ?_
              exact k_iret E (dk dX10_keep_0 26 rfl) h
      ·
        refine k_aload_n C (dk dX10_keep_0 10 rfl) rfl 0 rfl ?_
        refine k_iload_n C (dk dX10_keep_0 11 rfl) rfl 1 rfl ?_
        refine cl2_k h (fun n11 s10 hc h => ?_)
        refine k_cv (T := TX10) (N := 9) (ci := 5) (ob := 0) (As := [.int a1]) (st := []) C (qX10_shelfAt l g hg hc) (iW4 _ (List.mem_of_getElem? (i := 8) rfl)) (iW4 _ (List.mem_of_getElem? (i := 9) rfl)) (iW4 _ (List.mem_of_getElem? (i := 10) rfl)) (iW0 _ (List.mem_of_getElem? (i := 2) rfl)) (iW4 _ (List.mem_of_getElem? (i := 11) rfl)) rfl rfl hdX10_shelfAt (by decide) rfl (by decide) rfl rfl rfl (Nat.le_of_ble_eq_true rfl) (dk dX10_keep_0 12 rfl) ?_
        have hn11 : kd n11 = 3 := rX10_shelfAt hc
        refine k_iconst (v := (0 : Int32)) C (dk dX10_keep_0 13 rfl) (by decide) ?_
        refine k_putI (D := RX5) (T := TX5) (N := 6) (ci := 3) (k := 0) C iCX5 tyX5_ok nmX5 hn11 (by decide) rfl (by decide) (iW4 _ (List.mem_of_getElem? (i := 4) rfl)) rfl rfl flq3_0 flp3_0 (dk dX10_keep_0 14 rfl) h (fun s12 h => ?_)
        refine k_iconst (v := (0 : Int32)) C (dk dX10_keep_0 15 rfl) (by decide) ?_
        exact k_iret E (dk dX10_keep_0 16 rfl) h
    ·
      refine k_iconst (v := (-1 : Int32)) C (dk dX10_keep_0 6 rfl) (by decide) ?_
      exact k_iret E (dk dX10_keep_0 7 rfl) h
set_option maxRecDepth 100000 in
set_option maxHeartbeats 4000000 in
theorem qX10_row (l : Launch) (g : G) (hg : gOK g) {a1 : Int32} {a2 : Int32} {a3 : Int32}  {s0 σe : St} {v : Int32} (h : mX10_row a1 a2 a3 s0 = some (v, σe)) : Mc l g yX10_row cX10_row 4 (some .int) { frames := 2, cells := 0, slots := 0, locals := 46 } [.ref (g.2.2 0), .int a1, .int a2, .int a3] s0 (some (.int v)) σe := by
  refine k_enter hg pnRX10 rfl (Nat.le_of_ble_eq_true rfl) ?_
  intro WK E
  have C := kX_y E
  unfold mX10_row at h
  show WK 0 [(0, .ref (g.2.2 0)), (1, .int a1), (2, .int a2), (3, .int a3)] [] s0
  refine k_iload_n C (dk dX10_row_0 0 rfl) rfl 1 rfl ?_
  refine cl2_k h (fun x2 s1 hc h => ?_)
  refine k_cs (As := [.int a1]) (st := []) C (qX10_isShelf l g hg hc) (iW4 _ (List.mem_of_getElem? (i := 5) rfl)) (iW4 _ (List.mem_of_getElem? (i := 6) rfl)) (iW0 _ (List.mem_of_getElem? (i := 2) rfl)) (iW4 _ (List.mem_of_getElem? (i := 7) rfl)) rfl rfl hdX10_isShelf (by decide) rfl rfl (Nat.le_of_ble_eq_true rfl) (dk dX10_row_0 1 rfl) ?_
  refine k_if_eq (tgt := 22) C (dk dX10_row_0 2 rfl) (by decide) h (fun h => ?_) (fun h => ?_)
  ·
    refine k_iconst (v := (-1 : Int32)) C (dk dX10_row_0 11 rfl) (by decide) ?_
    exact k_iret E (dk dX10_row_0 12 rfl) h
  ·
    refine k_iload_n C (dk dX10_row_0 3 rfl) rfl 2 rfl ?_
    refine k_if_lt (tgt := 22) C (dk dX10_row_0 4 rfl) (by decide) h (fun h => ?_) (fun h => ?_)
    ·
      refine k_iconst (v := (-1 : Int32)) C (dk dX10_row_0 11 rfl) (by decide) ?_
      exact k_iret E (dk dX10_row_0 12 rfl) h
    ·
      refine k_iload_n C (dk dX10_row_0 5 rfl) rfl 2 rfl ?_
      refine k_iconst (v := (2 : Int32)) C (dk dX10_row_0 6 rfl) (by decide) ?_
      refine k_icmp_gt (tgt := 22) C (dk dX10_row_0 7 rfl) (by decide) h (fun h => ?_) (fun h => ?_)
      ·
        refine k_iconst (v := (-1 : Int32)) C (dk dX10_row_0 11 rfl) (by decide) ?_
        exact k_iret E (dk dX10_row_0 12 rfl) h
      ·
        refine k_iload_n C (dk dX10_row_0 8 rfl) rfl 3 rfl ?_
        refine k_bipush (v := (100 : Int32)) C (dk dX10_row_0 9 rfl) (by decide) ?_
        refine k_icmp_le (tgt := 24) C (dk dX10_row_0 10 rfl) (by decide) h (fun h => ?_) (fun h => ?_)
        ·
          refine k_iload_n C (dk dX10_row_0 13 rfl) rfl 3 rfl ?_
          refine k_if_ge (tgt := 31) C (dk dX10_row_0 14 rfl) (by decide) h (fun h => ?_) (fun h => ?_)
          ·
            refine k_aload_n C (dk dX10_row_0 17 rfl) rfl 0 rfl ?_
            refine k_iload_n C (dk dX10_row_0 18 rfl) rfl 1 rfl ?_
            refine cl2_k h (fun n4 s3 hc h => ?_)
            refine k_cv (T := TX10) (N := 9) (ci := 5) (ob := 0) (As := [.int a1]) (st := []) C (qX10_shelfAt l g hg hc) (iW4 _ (List.mem_of_getElem? (i := 8) rfl)) (iW4 _ (List.mem_of_getElem? (i := 9) rfl)) (iW4 _ (List.mem_of_getElem? (i := 10) rfl)) (iW0 _ (List.mem_of_getElem? (i := 2) rfl)) (iW4 _ (List.mem_of_getElem? (i := 11) rfl)) rfl rfl hdX10_shelfAt (by decide) rfl (by decide) rfl rfl rfl (Nat.le_of_ble_eq_true rfl) (dk dX10_row_0 19 rfl) ?_
            have hn4 : kd n4 = 3 := rX10_shelfAt hc
            refine k_iload_n C (dk dX10_row_0 20 rfl) rfl 2 rfl ?_
            refine k_iload_n C (dk dX10_row_0 21 rfl) rfl 3 rfl ?_
            refine cl1_k h (fun s5 hc h => ?_)
            refine k_cv (T := TX5) (N := 6) (ci := 3) (ob := n4) (As := [.int a2, .int a3]) (st := []) C (qX5_takeRow l g hg hn4 hc) (iW35 _ (List.mem_of_getElem? (i := 25) rfl)) (iW35 _ (List.mem_of_getElem? (i := 26) rfl)) (iW35 _ (List.mem_of_getElem? (i := 27) rfl)) (iW1 _ (List.mem_of_getElem? (i := 3) rfl)) (iW35 _ (List.mem_of_getElem? (i := 28) rfl)) rfl rfl hdX5_takeRow (by decide) hn4 (by decide) rfl rfl rfl (Nat.le_of_ble_eq_true rfl) (dk dX10_row_0 22 rfl) ?_
            refine k_iconst (v := (0 : Int32)) C (dk dX10_row_0 23 rfl) (by decide) ?_
            exact k_iret E (dk dX10_row_0 24 rfl) h
          ·
            refine k_bipush (v := (-14 : Int32)) C (dk dX10_row_0 15 rfl) (by decide) ?_
            exact k_iret E (dk dX10_row_0 16 rfl) h
        ·
          refine k_iconst (v := (-1 : Int32)) C (dk dX10_row_0 11 rfl) (by decide) ?_
          exact k_iret E (dk dX10_row_0 12 rfl) h
set_option maxRecDepth 100000 in
set_option maxHeartbeats 4000000 in
theorem qX10_put (l : Launch) (g : G) (hg : gOK g) {a1 : Int32} {a2 : Int32} {a3 : Int32}  {s0 σe : St} {v : Int32} (h : mX10_put a1 a2 a3 s0 = some (v, σe)) : Mc l g yX10_put cX10_put 5 (some .int) { frames := 3, cells := 0, slots := 0, locals := 64 } [.ref (g.2.2 0), .int a1, .int a2, .int a3] s0 (some (.int v)) σe := by
  refine k_enter hg pnRX10 rfl (Nat.le_of_ble_eq_true rfl) ?_
  intro WK E
  have C := kX_y E
  unfold mX10_put at h
  show WK 0 [(0, .ref (g.2.2 0)), (1, .int a1), (2, .int a2), (3, .int a3)] [] s0
  refine k_aload_n C (dk dX10_put_0 0 rfl) rfl 0 rfl ?_
  refine k_iload_n C (dk dX10_put_0 1 rfl) rfl 1 rfl ?_
  refine cl2_k h (fun x2 s1 hc h => ?_)
  refine k_cv (T := TX10) (N := 9) (ci := 5) (ob := 0) (As := [.int a1]) (st := []) C (qX10_refusalOfRow l g hg hc) (iW3 _ (List.mem_of_getElem? (i := 26) rfl)) (iW3 _ (List.mem_of_getElem? (i := 27) rfl)) (iW3 _ (List.mem_of_getElem? (i := 28) rfl)) (iW0 _ (List.mem_of_getElem? (i := 2) rfl)) (iW3 _ (List.mem_of_getElem? (i := 29) rfl)) rfl rfl hdX10_refusalOfRow (by decide) rfl (by decide) rfl rfl rfl (Nat.le_of_ble_eq_true rfl) (dk dX10_put_0 2 rfl) ?_
  refine k_istore (lv' := [(4, .int x2), (0, .ref (g.2.2 0)), (1, .int a1), (2, .int a2), (3, .int a3)]) C (dk dX10_put_0 3 rfl) (by decide) rfl ?_
  refine k_iload C (dk dX10_put_0 4 rfl) 0 rfl ?_
  refine k_if_eq (tgt := 15) C (dk dX10_put_0 5 rfl) (by decide) h (fun h => ?_) (fun h => ?_)
  ·
    refine k_aload_n C (dk dX10_put_0 8 rfl) rfl 1 rfl ?_
    refine k_iload_n C (dk dX10_put_0 9 rfl) rfl 2 rfl ?_
    refine cl2_k h (fun n4 s3 hc h => ?_)
    refine k_cv (T := TX10) (N := 9) (ci := 5) (ob := 0) (As := [.int a1]) (st := []) C (qX10_shelfAt l g hg hc) (iW4 _ (List.mem_of_getElem? (i := 8) rfl)) (iW4 _ (List.mem_of_getElem? (i := 9) rfl)) (iW4 _ (List.mem_of_getElem? (i := 10) rfl)) (iW0 _ (List.mem_of_getElem? (i := 2) rfl)) (iW4 _ (List.mem_of_getElem? (i := 11) rfl)) rfl rfl hdX10_shelfAt (by decide) rfl (by decide) rfl rfl rfl (Nat.le_of_ble_eq_true rfl) (dk dX10_put_0 10 rfl) ?_
    have hn4 : kd n4 = 3 := rX10_shelfAt hc
    refine k_iload_n C (dk dX10_put_0 11 rfl) rfl 3 rfl ?_
    refine cl2_k h (fun x6 s5 hc h => ?_)
    refine k_cv (T := TX5) (N := 6) (ci := 3) (ob := n4) (As := [.int a2]) (st := []) C (qX5_hasPlace l g hg hn4 hc) (iW36 _ (List.mem_of_getElem? (i := 8) rfl)) (iW36 _ (List.mem_of_getElem? (i := 9) rfl)) (iW36 _ (List.mem_of_getElem? (i := 10) rfl)) (iW1 _ (List.mem_of_getElem? (i := 3) rfl)) (iW36 _ (List.mem_of_getElem? (i := 11) rfl)) rfl rfl hdX5_hasPlace (by decide) hn4 (by decide) rfl rfl rfl (Nat.le_of_ble_eq_true rfl) (dk dX10_put_0 12 rfl) ?_
    refine k_if_ne (tgt := 30) C (dk dX10_put_0 13 rfl) (by decide) h (fun h => ?_) (fun h => ?_)
    ·
      refine k_aload_n C (dk dX10_put_0 16 rfl) rfl 1 rfl ?_
      refine k_iload_n C (dk dX10_put_0 17 rfl) rfl 2 rfl ?_
      refine cl2_k h (fun n8 s7 hc h => ?_)
      refine k_cv (T := TX10) (N := 9) (ci := 5) (ob := 0) (As := [.int a1]) (st := []) C (qX10_shelfAt l g hg hc) (iW4 _ (List.mem_of_getElem? (i := 8) rfl)) (iW4 _ (List.mem_of_getElem? (i := 9) rfl)) (iW4 _ (List.mem_of_getElem? (i := 10) rfl)) (iW0 _ (List.mem_of_getElem? (i := 2) rfl)) (iW4 _ (List.mem_of_getElem? (i := 11) rfl)) rfl rfl hdX10_shelfAt (by decide) rfl (by decide) rfl rfl rfl (Nat.le_of_ble_eq_true rfl) (dk dX10_put_0 18 rfl) ?_
      have hn8 : kd n8 = 3 := rX10_shelfAt hc
      refine k_iload_n C (dk dX10_put_0 19 rfl) rfl 3 rfl ?_
      refine k_iload_n C (dk dX10_put_0 20 rfl) rfl 4 rfl ?_
      refine cl1_k h (fun s9 hc h => ?_)
      refine k_cv (T := TX5) (N := 6) (ci := 3) (ob := n8) (As := [.int a2, .int a3]) (st := []) C (qX5_write l g hg hn8 hc) (iW36 _ (List.mem_of_getElem? (i := 12) rfl)) (iW36 _ (List.mem_of_getElem? (i := 13) rfl)) (iW36 _ (List.mem_of_getElem? (i := 14) rfl)) (iW1 _ (List.mem_of_getElem? (i := 3) rfl)) (iW36 _ (List.mem_of_getElem? (i := 15) rfl)) rfl rfl hdX5_write (by decide) hn8 (by decide) rfl rfl rfl (Nat.le_of_ble_eq_true rfl) (dk dX10_put_0 21 rfl) ?_
      refine k_iconst (v := (0 : Int32)) C (dk dX10_put_0 22 rfl) (by decide) ?_
      exact k_iret E (dk dX10_put_0 23 rfl) h
    ·
      refine k_bipush (v := (-13 : Int32)) C (dk dX10_put_0 14 rfl) (by decide) ?_
      exact k_iret E (dk dX10_put_0 15 rfl) h
  ·
    refine k_iload C (dk dX10_put_0 6 rfl) 0 rfl ?_
    exact k_iret E (dk dX10_put_0 7 rfl) h
set_option maxRecDepth 100000 in
set_option maxHeartbeats 4000000 in
theorem qX10_copy (l : Launch) (g : G) (hg : gOK g) {a1 : Int32} {a2 : Int32} {a3 : Int32} {a4 : Int32} {a5 : Int32}  {s0 σe : St} {v : Int32} (h : mX10_copy a1 a2 a3 a4 a5 s0 = some (v, σe)) : Mc l g yX10_copy cX10_copy 8 (some .int) { frames := 1, cells := 0, slots := 0, locals := 64 } [.ref (g.2.2 0), .int a1, .int a2, .int a3, .int a4, .int a5] s0 (some (.int v)) σe := by
  refine k_enter hg pnRX10 rfl (Nat.le_of_ble_eq_true rfl) ?_
  intro WK E
  have C := kX_y E
  unfold mX10_copy at h
  show WK 0 [(0, .ref (g.2.2 0)), (1, .int a1), (2, .int a2), (3, .int a3), (4, .int a4), (5, .int a5)] [] s0
  refine k_iload_n C (dk dX10_copy_0 0 rfl) rfl 1 rfl ?_
  refine cl2_k h (fun x2 s1 hc h => ?_)
  refine k_cs (As := [.int a1]) (st := []) C (qX10_isShelf l g hg hc) (iW4 _ (List.mem_of_getElem? (i := 5) rfl)) (iW4 _ (List.mem_of_getElem? (i := 6) rfl)) (iW0 _ (List.mem_of_getElem? (i := 2) rfl)) (iW4 _ (List.mem_of_getElem? (i := 7) rfl)) rfl rfl hdX10_isShelf (by decide) rfl rfl (Nat.le_of_ble_eq_true rfl) (dk dX10_copy_0 1 rfl) ?_
  refine k_if_eq (tgt := 14) C (dk dX10_copy_0 2 rfl) (by decide) h (fun h => ?_) (fun h => ?_)
  ·
    refine k_iconst (v := (-1 : Int32)) C (dk dX10_copy_0 6 rfl) (by decide) ?_
    exact k_iret E (dk dX10_copy_0 7 rfl) h
  ·
    refine k_iload_n C (dk dX10_copy_0 3 rfl) rfl 3 rfl ?_
    refine cl2_k h (fun x4 s3 hc h => ?_)
    refine k_cs (As := [.int a3]) (st := []) C (qX10_isShelf l g hg hc) (iW4 _ (List.mem_of_getElem? (i := 5) rfl)) (iW4 _ (List.mem_of_getElem? (i := 6) rfl)) (iW0 _ (List.mem_of_getElem? (i := 2) rfl)) (iW4 _ (List.mem_of_getElem? (i := 7) rfl)) rfl rfl hdX10_isShelf (by decide) rfl rfl (Nat.le_of_ble_eq_true rfl) (dk dX10_copy_0 4 rfl) ?_
    refine k_if_ne (tgt := 16) C (dk dX10_copy_0 5 rfl) (by decide) h (fun h => ?_) (fun h => ?_)
    ·
      refine k_aload_n C (dk dX10_copy_0 8 rfl) rfl 0 rfl ?_
      refine k_iload_n C (dk dX10_copy_0 9 rfl) rfl 1 rfl ?_
      refine cl2_k h (fun n6 s5 hc h => ?_)
      refine k_cv (T := TX10) (N := 9) (ci := 5) (ob := 0) (As := [.int a1]) (st := []) C (qX10_shelfAt l g hg hc) (iW4 _ (List.mem_of_getElem? (i := 8) rfl)) (iW4 _ (List.mem_of_getElem? (i := 9) rfl)) (iW4 _ (List.mem_of_getElem? (i := 10) rfl)) (iW0 _ (List.mem_of_getElem? (i := 2) rfl)) (iW4 _ (List.mem_of_getElem? (i := 11) rfl)) rfl rfl hdX10_shelfAt (by decide) rfl (by decide) rfl rfl rfl (Nat.le_of_ble_eq_true rfl) (dk dX10_copy_0 10 rfl) ?_
      have hn6 : kd n6 = 3 := rX10_shelfAt hc
      refine k_astore (lv' := [(6, .ref (g.2.2 n6)), (0, .ref (g.2.2 0)), (1, .int a1), (2, .int a2), (3, .int a3), (4, .int a4), (5, .int a5)]) C (dk dX10_copy_0 11 rfl) (by decide) rfl ?_
      refine k_aload_n C (dk dX10_copy_0 12 rfl) rfl 1 rfl ?_
      refine k_iload_n C (dk dX10_copy_0 13 rfl) rfl 4 rfl ?_
      refine cl2_k h (fun n8 s7 hc h => ?_)
      refine k_cv (T := TX10) (N := 9) (ci := 5) (ob := 0) (As := [.int a3]) (st := []) C (qX10_shelfAt l g hg hc) (iW4 _ (List.mem_of_getElem? (i := 8) rfl)) (iW4 _ (List.mem_of_getElem? (i := 9) rfl)) (iW4 _ (List.mem_of_getElem? (i := 10) rfl)) (iW0 _ (List.mem_of_getElem? (i := 2) rfl)) (iW4 _ (List.mem_of_getElem? (i := 11) rfl)) rfl rfl hdX10_shelfAt (by decide) rfl (by decide) rfl rfl rfl (Nat.le_of_ble_eq_true rfl) (dk dX10_copy_0 14 rfl) ?_
      have hn8 : kd n8 = 3 := rX10_shelfAt hc
      refine k_astore (lv' := [(7, .ref (g.2.2 n8)), (6, .ref (g.2.2 n6)), (0, .ref (g.2.2 0)), (1, .int a1), (2, .int a2), (3, .int a3), (4, .int a4), (5, .int a5)]) C (dk dX10_copy_0 15 rfl) (by decide) rfl ?_
      refine k_aload C (dk dX10_copy_0 16 rfl) 1 rfl ?_
      refine k_getI (D := RX5) (T := TX5) (N := 6) (ci := 3) (k := 0) C iCX5 hn6 (by decide) rfl (by decide) (iW4 _ (List.mem_of_getElem? (i := 4) rfl)) rfl (dk dX10_copy_0 17 rfl) h (fun x9 h => ?_)
      refine k_if_eq (tgt := 46) C (dk dX10_copy_0 18 rfl) (by decide) h (fun h => ?_) (fun h => ?_)
      ·
        refine k_bipush (v := (-11 : Int32)) C (dk dX10_copy_0 22 rfl) (by decide) ?_
        exact k_iret E (dk dX10_copy_0 23 rfl) h
      ·
        refine k_aload C (dk dX10_copy_0 19 rfl) 0 rfl ?_
        refine k_getI (D := RX5) (T := TX5) (N := 6) (ci := 3) (k := 0) C iCX5 hn8 (by decide) rfl (by decide) (iW4 _ (List.mem_of_getElem? (i := 4) rfl)) rfl (dk dX10_copy_0 20 rfl) h (fun x10 h => ?_)
        refine k_if_ne (tgt := 49) C (dk dX10_copy_0 21 rfl) (by decide) h (fun h => ?_) (fun h => ?_)
        ·
          refine k_aload C (dk dX10_copy_0 24 rfl) 1 rfl ?_
          refine k_getI (D := RX5) (T := TX5) (N := 6) (ci := 3) (k := 0) C iCX5 hn6 (by decide) rfl (by decide) (iW4 _ (List.mem_of_getElem? (i := 4) rfl)) rfl (dk dX10_copy_0 25 rfl) h (fun x11 h => ?_)
          refine k_iconst (v := (2 : Int32)) C (dk dX10_copy_0 26 rfl) (by decide) ?_
          refine k_icmp_ne (tgt := 80) C (dk dX10_copy_0 27 rfl) (by decide) h (fun h => ?_) (fun h => ?_)
          ·
            refine k_bipush (v := (-12 : Int32)) C (dk dX10_copy_1 5 rfl) (by decide) ?_
            exact k_iret E (dk dX10_copy_1 6 rfl) h
          ·
            refine k_aload C (dk dX10_copy_0 28 rfl) 0 rfl ?_
            refine k_getI (D := RX5) (T := TX5) (N := 6) (ci := 3) (k := 0) C iCX5 hn8 (by decide) rfl (by decide) (iW4 _ (List.mem_of_getElem? (i := 4) rfl)) rfl (dk dX10_copy_0 29 rfl) h (fun x12 h => ?_)
            refine k_iconst (v := (2 : Int32)) C (dk dX10_copy_0 30 rfl) (by decide) ?_
            refine k_icmp_ne (tgt := 80) C (dk dX10_copy_0 31 rfl) (by decide) h (fun h => ?_) (fun h => ?_)
            ·
              refine k_bipush (v := (-12 : Int32)) C (dk dX10_copy_1 5 rfl) (by decide) ?_
              exact k_iret E (dk dX10_copy_1 6 rfl) h
            ·
              refine k_aload C (dk dX10_copy_1 0 rfl) 1 rfl ?_
              refine k_getI (D := RX5) (T := TX5) (N := 6) (ci := 3) (k := 3) C iCX5 hn6 (by decide) rfl (by decide) (iW3 _ (List.mem_of_getElem? (i := 25) rfl)) rfl (dk dX10_copy_1 1 rfl) h (fun x13 h => ?_)
              refine k_aload C (dk dX10_copy_1 2 rfl) 0 rfl ?_
              refine k_getI (D := RX5) (T := TX5) (N := 6) (ci := 3) (k := 3) C iCX5 hn8 (by decide) rfl (by decide) (iW3 _ (List.mem_of_getElem? (i := 25) rfl)) rfl (dk dX10_copy_1 3 rfl) h (fun x14 h => ?_)
              refine k_icmp_eq (tgt := 83) C (dk dX10_copy_1 4 rfl) (by decide) h (fun h => ?_) (fun h => ?_)
              ·
                refine k_aload C (dk dX10_copy_1 7 rfl) 1 rfl ?_
                refine k_iload_n C (dk dX10_copy_1 8 rfl) rfl 4 rfl ?_
                refine k_iload C (dk dX10_copy_1 9 rfl) 7 rfl ?_
                refine cl2_k h (fun x16 s15 hc h => ?_)
                refine k_cv (T := TX5) (N := 6) (ci := 3) (ob := n6) (As := [.int a2, .int a5]) (st := []) C (qX5_hasPlaces l g hg hn6 hc) (iW37 _ (List.mem_of_getElem? (i := 25) rfl)) (iW37 _ (List.mem_of_getElem? (i := 26) rfl)) (iW37 _ (List.mem_of_getElem? (i := 27) rfl)) (iW1 _ (List.mem_of_getElem? (i := 3) rfl)) (iW37 _ (List.mem_of_getElem? (i := 28) rfl)) rfl rfl hdX5_hasPlaces (by decide) hn6 (by decide) rfl rfl rfl (Nat.le_of_ble_eq_true rfl) (dk dX10_copy_1 10 rfl) ?_
                refine k_if_eq (tgt := 106) C (dk dX10_copy_1 11 rfl) (by decide) h (fun h => ?_) (fun h => ?_)
                ·
                  refine k_bipush (v := (-13 : Int32)) C (dk dX10_copy_1 17 rfl) (by decide) ?_
                  exact k_iret E (dk dX10_copy_1 18 rfl) h
                ·
                  refine k_aload C (dk dX10_copy_1 12 rfl) 0 rfl ?_
                  refine k_iload C (dk dX10_copy_1 13 rfl) 6 rfl ?_
                  refine k_iload C (dk dX10_copy_1 14 rfl) 7 rfl ?_
                  refine cl2_k h (fun x18 s17 hc h => ?_)
                  refine k_cv (T := TX5) (N := 6) (ci := 3) (ob := n8) (As := [.int a4, .int a5]) (st := []) C (qX5_hasPlaces l g hg hn8 hc) (iW37 _ (List.mem_of_getElem? (i := 25) rfl)) (iW37 _ (List.mem_of_getElem? (i := 26) rfl)) (iW37 _ (List.mem_of_getElem? (i := 27) rfl)) (iW1 _ (List.mem_of_getElem? (i := 3) rfl)) (iW37 _ (List.mem_of_getElem? (i := 28) rfl)) rfl rfl hdX5_hasPlaces (by decide) hn8 (by decide) rfl rfl rfl (Nat.le_of_ble_eq_true rfl) (dk dX10_copy_1 15 rfl) ?_
                  refine k_if_ne (tgt := 109) C (dk dX10_copy_1 16 rfl) (by decide) h (fun h => ?_) (fun h => ?_)
                  ·
                    refine k_aload C (dk dX10_copy_1 19 rfl) 1 rfl ?_
                    refine k_getR (q := (n6 + 9)) (D := RX5) (T := TX5) (N := 6) (ci := 3) (k := 5) C iCX5 hn6 (by decide) rfl (by decide) (iW37 _ (List.mem_of_getElem? (i := 20) rfl)) rfl (dk dX10_copy_1 20 rfl) ?_
                    refine k_iload_n C (dk dX10_copy_1 21 rfl) rfl 4 rfl ?_
                    refine k_aload C (dk dX10_copy_1 22 rfl) 0 rfl ?_
                    refine k_getR (q := (n8 + 9)) (D := RX5) (T := TX5) (N := 6) (ci := 3) (k := 5) C iCX5 hn8 (by decide) rfl (by decide) (iW37 _ (List.mem_of_getElem? (i := 20) rfl)) rfl (dk dX10_copy_1 23 rfl) ?_
                    refine k_iload C (dk dX10_copy_1 24 rfl) 6 rfl ?_
                    refine k_iload C (dk dX10_copy_1 25 rfl) 7 rfl ?_
                    refine k_copyL C (iW37 _ (List.mem_of_getElem? (i := 21) rfl)) (iW37 _ (List.mem_of_getElem? (i := 22) rfl)) (iW37 _ (List.mem_of_getElem? (i := 23) rfl)) (iW37 _ (List.mem_of_getElem? (i := 24) rfl)) (kd_S9 hn6) (ln_S9 hn6) (kd_S9 hn8) (ln_S9 hn8) (Nat.le_of_ble_eq_true rfl) (Nat.le_of_ble_eq_true rfl) (dk dX10_copy_1 26 rfl) h (fun s19 h => ?_)
                    refine k_iload C (dk dX10_copy_1 27 rfl) 7 rfl ?_
                    exact k_iret E (dk dX10_copy_1 28 rfl) h
                  ·
                    refine k_bipush (v := (-13 : Int32)) C (dk dX10_copy_1 17 rfl) (by decide) ?_
                    exact k_iret E (dk dX10_copy_1 18 rfl) h
              ·
                refine k_bipush (v := (-12 : Int32)) C (dk dX10_copy_1 5 rfl) (by decide) ?_
                exact k_iret E (dk dX10_copy_1 6 rfl) h
        ·
          refine k_bipush (v := (-11 : Int32)) C (dk dX10_copy_0 22 rfl) (by decide) ?_
          exact k_iret E (dk dX10_copy_0 23 rfl) h
    ·
      refine k_iconst (v := (-1 : Int32)) C (dk dX10_copy_0 6 rfl) (by decide) ?_
      exact k_iret E (dk dX10_copy_0 7 rfl) h
set_option maxRecDepth 100000 in
set_option maxHeartbeats 4000000 in
theorem qX10_cost (l : Launch) (g : G) (hg : gOK g) {a1 : Int32}  {s0 σe : St} {v : Int32} (h : mX10_cost a1 s0 = some (v, σe)) : Mc l g yX10_cost cX10_cost 3 (some .int) { frames := 3, cells := 0, slots := 0, locals := 64 } [.ref (g.2.2 0), .int a1] s0 (some (.int v)) σe := by
  refine k_enter hg pnRX10 rfl (Nat.le_of_ble_eq_true rfl) ?_
  intro WK E
  have C := kX_y E
  unfold mX10_cost at h
  show WK 0 [(0, .ref (g.2.2 0)), (1, .int a1)] [] s0
  refine k_aload_n C (dk dX10_cost_0 0 rfl) rfl 0 rfl ?_
  refine k_iload_n C (dk dX10_cost_0 1 rfl) rfl 1 rfl ?_
  refine cl2_k h (fun x2 s1 hc h => ?_)
  refine k_cv (T := TX10) (N := 9) (ci := 5) (ob := 0) (As := [.int a1]) (st := []) C (qX10_refusalOfGround l g hg hc) (iW12 _ (List.mem_of_getElem? (i := 5) rfl)) (iW12 _ (List.mem_of_getElem? (i := 6) rfl)) (iW12 _ (List.mem_of_getElem? (i := 7) rfl)) (iW0 _ (List.mem_of_getElem? (i := 2) rfl)) (iW12 _ (List.mem_of_getElem? (i := 8) rfl)) rfl rfl hdX10_refusalOfGround (by decide) rfl (by decide) rfl rfl rfl (Nat.le_of_ble_eq_true rfl) (dk dX10_cost_0 2 rfl) ?_
  refine k_istore_n (lv' := [(2, .int x2), (0, .ref (g.2.2 0)), (1, .int a1)]) C (dk dX10_cost_0 3 rfl) rfl (by decide) rfl ?_
  refine k_iload_n C (dk dX10_cost_0 4 rfl) rfl 0 rfl ?_
  refine k_if_eq (tgt := 14) C (dk dX10_cost_0 5 rfl) (by decide) h (fun h => ?_) (fun h => ?_)
  ·
    refine k_aload_n C (dk dX10_cost_0 8 rfl) rfl 1 rfl ?_
    refine k_iload_n C (dk dX10_cost_0 9 rfl) rfl 2 rfl ?_
    refine cl2_k h (fun n4 s3 hc h => ?_)
    refine k_cv (T := TX10) (N := 9) (ci := 5) (ob := 0) (As := [.int a1]) (st := []) C (qX10_shelfAt l g hg hc) (iW4 _ (List.mem_of_getElem? (i := 8) rfl)) (iW4 _ (List.mem_of_getElem? (i := 9) rfl)) (iW4 _ (List.mem_of_getElem? (i := 10) rfl)) (iW0 _ (List.mem_of_getElem? (i := 2) rfl)) (iW4 _ (List.mem_of_getElem? (i := 11) rfl)) rfl rfl hdX10_shelfAt (by decide) rfl (by decide) rfl rfl rfl (Nat.le_of_ble_eq_true rfl) (dk dX10_cost_0 10 rfl) ?_
    have hn4 : kd n4 = 3 := rX10_shelfAt hc
    refine k_getI (D := RX5) (T := TX5) (N := 6) (ci := 3) (k := 1) C iCX5 hn4 (by decide) rfl (by decide) (iW12 _ (List.mem_of_getElem? (i := 3) rfl)) rfl (dk dX10_cost_0 11 rfl) h (fun x5 h => ?_)
    refine k_aload_n C (dk dX10_cost_0 12 rfl) rfl 1 rfl ?_
    refine k_iload_n C (dk dX10_cost_0 13 rfl) rfl 2 rfl ?_
    refine cl2_k h (fun n7 s6 hc h => ?_)
    refine k_cv (T := TX10) (N := 9) (ci := 5) (ob := 0) (As := [.int a1]) (st := [.int x5]) C (qX10_shelfAt l g hg hc) (iW4 _ (List.mem_of_getElem? (i := 8) rfl)) (iW4 _ (List.mem_of_getElem? (i := 9) rfl)) (iW4 _ (List.mem_of_getElem? (i := 10) rfl)) (iW0 _ (List.mem_of_getElem? (i := 2) rfl)) (iW4 _ (List.mem_of_getElem? (i := 11) rfl)) rfl rfl hdX10_shelfAt (by decide) rfl (by decide) rfl rfl rfl (Nat.le_of_ble_eq_true rfl) (dk dX10_cost_0 14 rfl) ?_
    have hn7 : kd n7 = 3 := rX10_shelfAt hc
    refine k_getI (D := RX5) (T := TX5) (N := 6) (ci := 3) (k := 2) C iCX5 hn7 (by decide) rfl (by decide) (iW12 _ (List.mem_of_getElem? (i := 4) rfl)) rfl (dk dX10_cost_0 15 rfl) h (fun x8 h => ?_)
    refine cl2_k h (fun x10 s9 hc h => ?_)
    refine k_cs (As := [.int x5, .int x8]) (st := []) C (qX2_costOf l g hg hc) (iW38 _ (List.mem_of_getElem? (i := 7) rfl)) (iW38 _ (List.mem_of_getElem? (i := 8) rfl)) (iW5 _ (List.mem_of_getElem? (i := 18) rfl)) (iW38 _ (List.mem_of_getElem? (i := 9) rfl)) rfl rfl hdX2_costOf (by decide) rfl rfl (Nat.le_of_ble_eq_true rfl) (dk dX10_cost_0 16 rfl) ?_
    exact k_iret E (dk dX10_cost_0 17 rfl) h
  ·
    refine k_iload_n C (dk dX10_cost_0 6 rfl) rfl 0 rfl ?_
    refine k_goto (tgt := 33) C (dk dX10_cost_0 7 rfl) (by decide) ?_
    exact k_iret E (dk dX10_cost_0 17 rfl) h
set_option maxRecDepth 100000 in
set_option maxHeartbeats 4000000 in
theorem qX11_thrown (l : Launch) (g : G) (hg : gOK g)   {s0 σe : St} {v : Int32} (h : mX11_thrown s0 = some (v, σe)) : Mc l g yX11_thrown cX11_thrown 1 (some .int) { frames := 0, cells := 0, slots := 0, locals := 0 } [.ref (g.2.2 45)] s0 (some (.int v)) σe := by
  refine k_enter hg pnRX11 rfl (Nat.le_of_ble_eq_true rfl) ?_
  intro WK E
  have C := kX_y E
  unfold mX11_thrown at h
  show WK 0 [(0, .ref (g.2.2 45))] [] s0
  refine k_aload_n C (dk dX11_thrown_0 0 rfl) rfl 0 rfl ?_
  refine k_getI (D := RX11) (T := TX11) (N := 39) (ci := 6) (k := 16) C iCX11 rfl (by decide) rfl (by decide) (iW3 _ (List.mem_of_getElem? (i := 20) rfl)) rfl (dk dX11_thrown_0 1 rfl) h (fun x1 h => ?_)
  exact k_iret E (dk dX11_thrown_0 2 rfl) h
set_option maxRecDepth 100000 in
set_option maxHeartbeats 4000000 in
theorem qX11_in (l : Launch) (g : G) (hg : gOK g) {a0 : Int64} {a2 : Int64} {a4 : Int64}  {s0 σe : St} {v : Int32} (h : mX11_in a0 a2 a4 s0 = some (v, σe)) : Mc l g yX11_in cX11_in 6 (some .boolean) { frames := 0, cells := 0, slots := 0, locals := 0 } [.long a0, .long a2, .long a4] s0 (some (.int v)) σe := by
  refine k_enter hg pnRX11 rfl (Nat.le_of_ble_eq_true rfl) ?_
  intro WK E
  have C := kX_y E
  unfold mX11_in at h
  show WK 0 [(0, .long a0), (2, .long a2), (4, .long a4)] [] s0
  refine k_lload_n C (dk dX11_in_0 0 rfl) rfl 0 rfl ?_
  refine k_lload_n C (dk dX11_in_0 1 rfl) rfl 1 rfl ?_
  refine k_lcmp C (dk dX11_in_0 2 rfl) ?_
  refine k_if_lt (tgt := 17) C (dk dX11_in_0 3 rfl) (by decide) h (fun h => ?_) (fun h => ?_)
  ·
    refine k_iconst (v := (0 : Int32)) C (dk dX11_in_0 10 rfl) (by decide) ?_
    exact k_zret E (dk dX11_in_0 11 rfl) h
  ·
    refine k_lload_n C (dk dX11_in_0 4 rfl) rfl 0 rfl ?_
    refine k_lload C (dk dX11_in_0 5 rfl) 2 rfl ?_
    refine k_lcmp C (dk dX11_in_0 6 rfl) ?_
    refine k_if_gt (tgt := 17) C (dk dX11_in_0 7 rfl) (by decide) h (fun h => ?_) (fun h => ?_)
    ·
      refine k_iconst (v := (0 : Int32)) C (dk dX11_in_0 10 rfl) (by decide) ?_
      exact k_zret E (dk dX11_in_0 11 rfl) h
    ·
      refine k_iconst (v := (1 : Int32)) C (dk dX11_in_0 8 rfl) (by decide) ?_
      refine k_goto (tgt := 18) C (dk dX11_in_0 9 rfl) (by decide) ?_
      exact k_zret E (dk dX11_in_0 11 rfl) h
set_option maxRecDepth 100000 in
set_option maxHeartbeats 4000000 in
theorem qX11_isCell (l : Launch) (g : G) (hg : gOK g) {a0 : Int64}  {s0 σe : St} {v : Int32} (h : mX11_isCell a0 s0 = some (v, σe)) : Mc l g yX11_isCell cX11_isCell 2 (some .boolean) { frames := 1, cells := 0, slots := 0, locals := 25 } [.long a0] s0 (some (.int v)) σe := by
  refine k_enter hg pnRX11 rfl (Nat.le_of_ble_eq_true rfl) ?_
  intro WK E
  have C := kX_y E
  unfold mX11_isCell at h
  show WK 0 [(0, .long a0)] [] s0
  refine k_lload_n C (dk dX11_isCell_0 0 rfl) rfl 0 rfl ?_
  refine k_lconst (v := (0 : Int64)) C (dk dX11_isCell_0 1 rfl) (by decide) ?_
  refine k_ldc2 (v := (35 : Int64)) C (dk dX11_isCell_0 2 rfl) (iW11 _ (List.mem_of_getElem? (i := 24) rfl)) ?_
  refine cl2_k h (fun x2 s1 hc h => ?_)
  refine k_cs (As := [.long a0, .long (0 : Int64), .long (35 : Int64)]) (st := []) C (qX11_in l g hg hc) (iW8 _ (List.mem_of_getElem? (i := 16) rfl)) (iW8 _ (List.mem_of_getElem? (i := 17) rfl)) (iW0 _ (List.mem_of_getElem? (i := 5) rfl)) (iW8 _ (List.mem_of_getElem? (i := 18) rfl)) rfl rfl hdX11_in (by decide) rfl rfl (Nat.le_of_ble_eq_true rfl) (dk dX11_isCell_0 3 rfl) ?_
  exact k_zret E (dk dX11_isCell_0 4 rfl) h
set_option maxRecDepth 100000 in
set_option maxHeartbeats 4000000 in
theorem qX11_plainly (l : Launch) (g : G) (hg : gOK g) {a0 : Int32}  {s0 σe : St} {v : Int32} (h : mX11_plainly a0 s0 = some (v, σe)) : Mc l g yX11_plainly cX11_plainly 1 (some .int) { frames := 0, cells := 0, slots := 0, locals := 0 } [.int a0] s0 (some (.int v)) σe := by
  refine k_enter hg pnRX11 rfl (Nat.le_of_ble_eq_true rfl) ?_
  intro WK E
  have C := kX_y E
  unfold mX11_plainly at h
  show WK 0 [(0, .int a0)] [] s0
  refine k_iload_n C (dk dX11_plainly_0 0 rfl) rfl 0 rfl ?_
  refine k_if_ge (tgt := 9) C (dk dX11_plainly_0 1 rfl) (by decide) h (fun h => ?_) (fun h => ?_)
  ·
    refine k_iload_n C (dk dX11_plainly_0 5 rfl) rfl 0 rfl ?_
    exact k_iret E (dk dX11_plainly_0 6 rfl) h
  ·
    refine k_iload_n C (dk dX11_plainly_0 2 rfl) rfl 0 rfl ?_
    refine k_ineg C (dk dX11_plainly_0 3 rfl) ?_
    refine k_goto (tgt := 10) C (dk dX11_plainly_0 4 rfl) (by decide) ?_
    exact k_iret E (dk dX11_plainly_0 6 rfl) h
set_option maxRecDepth 100000 in
set_option maxHeartbeats 4000000 in
theorem qX11_isOn (l : Launch) (g : G) (hg : gOK g) {a0 : Int64} {a2 : Int32}  {s0 σe : St} {v : Int32} (h : mX11_isOn a0 a2 s0 = some (v, σe)) : Mc l g yX11_isOn cX11_isOn 3 (some .boolean) { frames := 0, cells := 0, slots := 0, locals := 0 } [.long a0, .int a2] s0 (some (.int v)) σe := by
  refine k_enter hg pnRX11 rfl (Nat.le_of_ble_eq_true rfl) ?_
  intro WK E
  have C := kX_y E
  unfold mX11_isOn at h
  show WK 0 [(0, .long a0), (2, .int a2)] [] s0
  refine k_lload_n C (dk dX11_isOn_0 0 rfl) rfl 0 rfl ?_
  refine k_iload_n C (dk dX11_isOn_0 1 rfl) rfl 1 rfl ?_
  refine k_lshr C (dk dX11_isOn_0 2 rfl) ?_
  refine k_lconst (v := (1 : Int64)) C (dk dX11_isOn_0 3 rfl) (by decide) ?_
  refine k_land C (dk dX11_isOn_0 4 rfl) ?_
  refine k_lconst (v := (1 : Int64)) C (dk dX11_isOn_0 5 rfl) (by decide) ?_
  refine k_lcmp C (dk dX11_isOn_0 6 rfl) ?_
  refine k_if_ne (tgt := 14) C (dk dX11_isOn_0 7 rfl) (by decide) h (fun h => ?_) (fun h => ?_)
  ·
    refine k_iconst (v := (0 : Int32)) C (dk dX11_isOn_0 10 rfl) (by decide) ?_
    exact k_zret E (dk dX11_isOn_0 11 rfl) h
  ·
    refine k_iconst (v := (1 : Int32)) C (dk dX11_isOn_0 8 rfl) (by decide) ?_
    refine k_goto (tgt := 15) C (dk dX11_isOn_0 9 rfl) (by decide) ?_
    exact k_zret E (dk dX11_isOn_0 11 rfl) h
set_option maxRecDepth 100000 in
set_option maxHeartbeats 4000000 in
theorem qX11_onesOf (l : Launch) (g : G) (hg : gOK g) {a0 : Int64}  {s0 σe : St} {v : Int32} (h : mX11_onesOf a0 s0 = some (v, σe)) : Mc l g yX11_onesOf cX11_onesOf 5 (some .int) { frames := 0, cells := 0, slots := 0, locals := 0 } [.long a0] s0 (some (.int v)) σe := by
  refine k_enter hg pnRX11 rfl (Nat.le_of_ble_eq_true rfl) ?_
  intro WK E
  have C := kX_y E
  unfold mX11_onesOf at h
  show WK 0 [(0, .long a0)] [] s0
  refine k_iconst (v := (0 : Int32)) C (dk dX11_onesOf_0 0 rfl) (by decide) ?_
  refine k_istore_n (lv' := [(2, .int (0 : Int32)), (0, .long a0)]) C (dk dX11_onesOf_0 1 rfl) rfl (by decide) rfl ?_
  refine k_lload_n C (dk dX11_onesOf_0 2 rfl) rfl 1 rfl ?_
  refine k_lstore_n (lv' := [(3, .long a0), (2, .int (0 : Int32)), (0, .long a0)]) C (dk dX11_onesOf_0 3 rfl) rfl (by decide) rfl ?_
  refine kl_L (P := (fun J4 => ∀ (y1 : Int32) (y2 : Int64) (s3 : St), J4 y1 y2 s3 = some (v, σe) → WK 4 [(2, .int y1), (3, .long y2)] [] s3)) h (fun _ _ _ h => nomatch h) (fun J4 hJ4 y1 y2 s3 h => ?_) (fun J4 hJ4 h => ?_)
  ·
    unfold mX11_onesOf_4 at h
    refine k_lload_n C (dk dX11_onesOf_0 4 rfl) rfl 1 rfl ?_
    refine k_lconst (v := (0 : Int64)) C (dk dX11_onesOf_0 5 rfl) (by decide) ?_
    refine k_lcmp C (dk dX11_onesOf_0 6 rfl) ?_
    refine k_if_eq (tgt := 22) C (dk dX11_onesOf_0 7 rfl) (by decide) h (fun h => ?_) (fun h => ?_)
    ·
      refine k_iload_n C (dk dX11_onesOf_0 16 rfl) rfl 0 rfl ?_
      exact k_iret E (dk dX11_onesOf_0 17 rfl) h
    ·
      refine k_iinc (lv' := [(2, .int (y1 + 1)), (3, .long y2)]) C (dk dX11_onesOf_0 8 rfl) (j := 0) rfl rfl (by decide) rfl ?_
      refine k_lload_n C (dk dX11_onesOf_0 9 rfl) rfl 1 rfl ?_
      refine k_lload_n C (dk dX11_onesOf_0 10 rfl) rfl 1 rfl ?_
      refine k_lconst (v := (1 : Int64)) C (dk dX11_onesOf_0 11 rfl) (by decide) ?_
      refine k_lsub C (dk dX11_onesOf_0 12 rfl) ?_
      refine k_land C (dk dX11_onesOf_0 13 rfl) ?_
      refine nmL h (fun x4 h => ?_)
      refine k_lstore_n (lv' := [(3, .long x4), (2, .int (y1 + 1))]) C (dk dX11_onesOf_0 14 rfl) rfl (by decide) rfl ?_
      refine k_goto (tgt := 4) C (dk dX11_onesOf_0 15 rfl) (by decide) ?_
      refine k_sub C [1, 0] rfl ?_
      exact hJ4 _ _ _ h
  ·
    refine k_sub C [1, 0] rfl ?_
    exact hJ4 _ _ _ h
set_option maxRecDepth 100000 in
set_option maxHeartbeats 4000000 in
theorem qX11_heightOf (l : Launch) (g : G) (hg : gOK g) {a1 : Int32}  {s0 σe : St} {v : Int32} (h : mX11_heightOf a1 s0 = some (v, σe)) : Mc l g yX11_heightOf cX11_heightOf 2 (some .int) { frames := 0, cells := 0, slots := 0, locals := 0 } [.ref (g.2.2 45), .int a1] s0 (some (.int v)) σe := by
  refine k_enter hg pnRX11 rfl (Nat.le_of_ble_eq_true rfl) ?_
  intro WK E
  have C := kX_y E
  unfold mX11_heightOf at h
  show WK 0 [(0, .ref (g.2.2 45)), (1, .int a1)] [] s0
  refine k_aload_n C (dk dX11_heightOf_0 0 rfl) rfl 0 rfl ?_
  refine k_getR (q := 46) (D := RX11) (T := TX11) (N := 39) (ci := 6) (k := 0) C iCX11 rfl (by decide) rfl (by decide) (iW2 _ (List.mem_of_getElem? (i := 25) rfl)) rfl (dk dX11_heightOf_0 1 rfl) ?_
  refine k_iload_n C (dk dX11_heightOf_0 2 rfl) rfl 1 rfl ?_
  refine k_iald C rfl rfl (dk dX11_heightOf_0 3 rfl) h (fun x1 h => ?_)
  by_cases e0 : x1 = (2 : Int32)
  · replace h := (if_pos e0).symm.trans h
    refine k_tsIn (q := (2 : Int32)) (tgt := 40) C (dk dX11_heightOf_0 4 rfl) (by decide) (by decide) rfl (by decide) e0 ?_
    refine k_iconst (v := (2 : Int32)) C (dk dX11_heightOf_0 5 rfl) (by decide) ?_
    exact k_iret E (dk dX11_heightOf_0 6 rfl) h
  replace h := (if_neg e0).symm.trans h
  by_cases e1 : x1 = (3 : Int32)
  · replace h := (if_pos e1).symm.trans h
    refine k_tsIn (q := (3 : Int32)) (tgt := 42) C (dk dX11_heightOf_0 4 rfl) (by decide) (by decide) rfl (by decide) e1 ?_
    refine k_iconst (v := (2 : Int32)) C (dk dX11_heightOf_0 7 rfl) (by decide) ?_
    refine k_aload_n C (dk dX11_heightOf_0 8 rfl) rfl 0 rfl ?_
    refine k_getR (q := 47) (D := RX11) (T := TX11) (N := 39) (ci := 6) (k := 1) C iCX11 rfl (by decide) rfl (by decide) (iW2 _ (List.mem_of_getElem? (i := 26) rfl)) rfl (dk dX11_heightOf_0 9 rfl) ?_
    refine k_iload_n C (dk dX11_heightOf_0 10 rfl) rfl 1 rfl ?_
    refine k_iald C rfl rfl (dk dX11_heightOf_0 11 rfl) h (fun x2 h => ?_)
    refine k_iadd C (dk dX11_heightOf_0 12 rfl) ?_
    exact k_iret E (dk dX11_heightOf_0 13 rfl) h
  replace h := (if_neg e1).symm.trans h
  by_cases e2 : x1 = (4 : Int32)
  · replace h := (if_pos e2).symm.trans h
    refine k_tsIn (q := (4 : Int32)) (tgt := 51) C (dk dX11_heightOf_0 4 rfl) (by decide) (by decide) rfl (by decide) e2 ?_
    refine k_iconst (v := (2 : Int32)) C (dk dX11_heightOf_0 14 rfl) (by decide) ?_
    refine k_aload_n C (dk dX11_heightOf_0 15 rfl) rfl 0 rfl ?_
    refine k_getR (q := 47) (D := RX11) (T := TX11) (N := 39) (ci := 6) (k := 1) C iCX11 rfl (by decide) rfl (by decide) (iW2 _ (List.mem_of_getElem? (i := 26) rfl)) rfl (dk dX11_heightOf_0 16 rfl) ?_
    refine k_iload_n C (dk dX11_heightOf_0 17 rfl) rfl 1 rfl ?_
    refine k_iald C rfl rfl (dk dX11_heightOf_0 18 rfl) h (fun x3 h => ?_)
    refine k_iadd C (dk dX11_heightOf_0 19 rfl) ?_
    refine k_iconst (v := (2 : Int32)) C (dk dX11_heightOf_0 20 rfl) (by decide) ?_
    refine k_idiv C (dk dX11_heightOf_0 21 rfl) (by decide) ?_
    exact k_iret E (dk dX11_heightOf_0 22 rfl) h
  replace h := (if_neg e2).symm.trans h
  by_cases e4 : x1 = (6 : Int32)
  · replace h := (if_pos e4).symm.trans h
    refine k_tsIn (q := (6 : Int32)) (tgt := 62) C (dk dX11_heightOf_0 4 rfl) (by decide) (by decide) rfl (by decide) e4 ?_
    refine k_iconst (v := (1 : Int32)) C (dk dX11_heightOf_0 23 rfl) (by decide) ?_
    exact k_iret E (dk dX11_heightOf_0 24 rfl) h
  replace h := (if_neg e4).symm.trans h
  by_cases f5 : x1 = (5 : Int32)
  · refine k_tsIn (q := (5 : Int32)) (tgt := 64) C (dk dX11_heightOf_0 4 rfl) (by decide) (by decide) rfl (by decide) f5 ?_
    refine k_iconst (v := (0 : Int32)) C (dk dX11_heightOf_0 25 rfl) (by decide) ?_
    exact k_iret E (dk dX11_heightOf_0 26 rfl) h
  refine k_tsOut (tgt := 64) C (dk dX11_heightOf_0 4 rfl) (by have n0 : x1.toInt ≠ 2 := fun q => e0 (Int32.toInt_inj.mp (q.trans (by decide))); have n1 : x1.toInt ≠ 3 := fun q => e1 (Int32.toInt_inj.mp (q.trans (by decide))); have n2 : x1.toInt ≠ 4 := fun q => e2 (Int32.toInt_inj.mp (q.trans (by decide))); have n3 : x1.toInt ≠ 5 := fun q => f5 (Int32.toInt_inj.mp (q.trans (by decide))); have n4 : x1.toInt ≠ 6 := fun q => e4 (Int32.toInt_inj.mp (q.trans (by decide))); omega) (by decide) ?_
  refine k_iconst (v := (0 : Int32)) C (dk dX11_heightOf_0 25 rfl) (by decide) ?_
  exact k_iret E (dk dX11_heightOf_0 26 rfl) h
set_option maxRecDepth 100000 in
set_option maxHeartbeats 4000000 in
theorem qX11_isOpen (l : Launch) (g : G) (hg : gOK g) {a1 : Int32}  {s0 σe : St} {v : Int32} (h : mX11_isOpen a1 s0 = some (v, σe)) : Mc l g yX11_isOpen cX11_isOpen 2 (some .boolean) { frames := 0, cells := 0, slots := 0, locals := 0 } [.ref (g.2.2 45), .int a1] s0 (some (.int v)) σe := by
  refine k_enter hg pnRX11 rfl (Nat.le_of_ble_eq_true rfl) ?_
  intro WK E
  have C := kX_y E
  unfold mX11_isOpen at h
  show WK 0 [(0, .ref (g.2.2 45)), (1, .int a1)] [] s0
  refine k_iload_n C (dk dX11_isOpen_0 0 rfl) rfl 1 rfl ?_
  refine k_aload_n C (dk dX11_isOpen_0 1 rfl) rfl 0 rfl ?_
  refine k_getI (D := RX11) (T := TX11) (N := 39) (ci := 6) (k := 17) C iCX11 rfl (by decide) rfl (by decide) (iW3 _ (List.mem_of_getElem? (i := 7) rfl)) rfl (dk dX11_isOpen_0 2 rfl) h (fun x1 h => ?_)
  refine k_icmp_ne (tgt := 10) C (dk dX11_isOpen_0 3 rfl) (by decide) h (fun h => ?_) (fun h => ?_)
  ·
    refine k_aload_n C (dk dX11_isOpen_0 6 rfl) rfl 0 rfl ?_
    refine k_getR (q := 46) (D := RX11) (T := TX11) (N := 39) (ci := 6) (k := 0) C iCX11 rfl (by decide) rfl (by decide) (iW2 _ (List.mem_of_getElem? (i := 25) rfl)) rfl (dk dX11_isOpen_0 7 rfl) ?_
    refine k_iload_n C (dk dX11_isOpen_0 8 rfl) rfl 1 rfl ?_
    refine k_iald C rfl rfl (dk dX11_isOpen_0 9 rfl) h (fun x2 h => ?_)
    by_cases e0 : x2 = (3 : Int32)
    · replace h := (if_pos e0).symm.trans h
      refine k_tsIn (q := (3 : Int32)) (tgt := 44) C (dk dX11_isOpen_0 10 rfl) (by decide) (by decide) rfl (by decide) e0 ?_
      refine k_aload_n C (dk dX11_isOpen_0 11 rfl) rfl 0 rfl ?_
      refine k_getI (D := RX11) (T := TX11) (N := 39) (ci := 6) (k := 2) C iCX11 rfl (by decide) rfl (by decide) (iW9 _ (List.mem_of_getElem? (i := 13) rfl)) rfl (dk dX11_isOpen_0 12 rfl) h (fun x3 h => ?_)
      refine k_if_ne (tgt := 55) C (dk dX11_isOpen_0 13 rfl) (by decide) h (fun h => ?_) (fun h => ?_)
      ·
        refine k_iconst (v := (0 : Int32)) C (dk dX11_isOpen_0 16 rfl) (by decide) ?_
        exact k_zret E (dk dX11_isOpen_0 17 rfl) h
      ·
        refine k_iconst (v := (1 : Int32)) C (dk dX11_isOpen_0 14 rfl) (by decide) ?_
        refine k_goto (tgt := 56) C (dk dX11_isOpen_0 15 rfl) (by decide) ?_
        exact k_zret E (dk dX11_isOpen_0 17 rfl) h
    replace h := (if_neg e0).symm.trans h
    by_cases e1 : x2 = (4 : Int32)
    · replace h := (if_pos e1).symm.trans h
      refine k_tsIn (q := (4 : Int32)) (tgt := 57) C (dk dX11_isOpen_0 10 rfl) (by decide) (by decide) rfl (by decide) e1 ?_
      refine k_aload_n C (dk dX11_isOpen_0 18 rfl) rfl 0 rfl ?_
      refine k_getI (D := RX11) (T := TX11) (N := 39) (ci := 6) (k := 2) C iCX11 rfl (by decide) rfl (by decide) (iW9 _ (List.mem_of_getElem? (i := 13) rfl)) rfl (dk dX11_isOpen_0 19 rfl) h (fun x4 h => ?_)
      refine kl_J (P := (fun J74 => ∀ (s5 : St), J74 s5 = some (v, σe) → WK 74 [] [] s5)) h (fun s5 h => ?_) (fun J74 hJ74 h => ?_)
      ·
        unfold mX11_isOpen_74 at h
        refine k_iconst (v := (1 : Int32)) C (dk dX11_isOpen_0 27 rfl) (by decide) ?_
        refine k_goto (tgt := 79) C (dk dX11_isOpen_0 28 rfl) (by decide) ?_
        exact k_zret E (dk dX11_isOpen_0 30 rfl) h
      ·
        refine k_if_eq (tgt := 74) C (dk dX11_isOpen_0 20 rfl) (by decide) h (fun h => ?_) (fun h => ?_)
        ·
          refine k_sub C [] rfl ?_
          exact hJ74 _ h
        ·
          refine k_aload_n C (dk dX11_isOpen_0 21 rfl) rfl 0 rfl ?_
          refine k_getR (q := 47) (D := RX11) (T := TX11) (N := 39) (ci := 6) (k := 1) C iCX11 rfl (by decide) rfl (by decide) (iW2 _ (List.mem_of_getElem? (i := 26) rfl)) rfl (dk dX11_isOpen_0 22 rfl) ?_
          refine k_iload_n C (dk dX11_isOpen_0 23 rfl) rfl 1 rfl ?_
          refine k_iald C rfl rfl (dk dX11_isOpen_0 24 rfl) h (fun x6 h => ?_)
          refine k_iconst (v := (4 : Int32)) C (dk dX11_isOpen_0 25 rfl) (by decide) ?_
          refine k_icmp_gt (tgt := 78) C (dk dX11_isOpen_0 26 rfl) (by decide) h (fun h => ?_) (fun h => ?_)
          ·
            refine k_iconst (v := (0 : Int32)) C (dk dX11_isOpen_0 29 rfl) (by decide) ?_
            exact k_zret E (dk dX11_isOpen_0 30 rfl) h
          ·
            refine k_sub C [] rfl ?_
            exact hJ74 _ h
    replace h := (if_neg e1).symm.trans h
    by_cases e2 : x2 = (5 : Int32)
    · replace h := (if_pos e2).symm.trans h
      refine k_tsIn (q := (5 : Int32)) (tgt := 80) C (dk dX11_isOpen_0 10 rfl) (by decide) (by decide) rfl (by decide) e2 ?_
      refine k_aload_n C (dk dX11_isOpen_0 31 rfl) rfl 0 rfl ?_
      refine k_getI (D := RX11) (T := TX11) (N := 39) (ci := 6) (k := 2) C iCX11 rfl (by decide) rfl (by decide) (iW9 _ (List.mem_of_getElem? (i := 13) rfl)) rfl (dk dX11_isOpen_1 0 rfl) h (fun x7 h => ?_)
      refine k_iconst (v := (1 : Int32)) C (dk dX11_isOpen_1 1 rfl) (by decide) ?_
      refine k_icmp_ne (tgt := 92) C (dk dX11_isOpen_1 2 rfl) (by decide) h (fun h => ?_) (fun h => ?_)
      ·
        refine k_iconst (v := (0 : Int32)) C (dk dX11_isOpen_1 5 rfl) (by decide) ?_
        exact k_zret E (dk dX11_isOpen_1 6 rfl) h
      ·
        refine k_iconst (v := (1 : Int32)) C (dk dX11_isOpen_1 3 rfl) (by decide) ?_
        refine k_goto (tgt := 93) C (dk dX11_isOpen_1 4 rfl) (by decide) ?_
        exact k_zret E (dk dX11_isOpen_1 6 rfl) h
    replace h := (if_neg e2).symm.trans h
    refine k_tsOut (tgt := 94) C (dk dX11_isOpen_0 10 rfl) (by have n0 : x2.toInt ≠ 3 := fun q => e0 (Int32.toInt_inj.mp (q.trans (by decide))); have n1 : x2.toInt ≠ 4 := fun q => e1 (Int32.toInt_inj.mp (q.trans (by decide))); have n2 : x2.toInt ≠ 5 := fun q => e2 (Int32.toInt_inj.mp (q.trans (by decide))); omega) (by decide) ?_
    refine k_iconst (v := (1 : Int32)) C (dk dX11_isOpen_1 7 rfl) (by decide) ?_
    exact k_zret E (dk dX11_isOpen_1 8 rfl) h
  ·
    refine k_iconst (v := (1 : Int32)) C (dk dX11_isOpen_0 4 rfl) (by decide) ?_
    exact k_zret E (dk dX11_isOpen_0 5 rfl) h
set_option maxRecDepth 100000 in
set_option maxHeartbeats 4000000 in
theorem qX11_chanceOf (l : Launch) (g : G) (hg : gOK g) {a1 : Int32}  {s0 σe : St} {v : Int32} (h : mX11_chanceOf a1 s0 = some (v, σe)) : Mc l g yX11_chanceOf cX11_chanceOf 2 (some .int) { frames := 0, cells := 0, slots := 0, locals := 0 } [.ref (g.2.2 45), .int a1] s0 (some (.int v)) σe := by
  refine k_enter hg pnRX11 rfl (Nat.le_of_ble_eq_true rfl) ?_
  intro WK E
  have C := kX_y E
  unfold mX11_chanceOf at h
  show WK 0 [(0, .ref (g.2.2 45)), (1, .int a1)] [] s0
  refine k_aload_n C (dk dX11_chanceOf_0 0 rfl) rfl 0 rfl ?_
  refine k_getR (q := 46) (D := RX11) (T := TX11) (N := 39) (ci := 6) (k := 0) C iCX11 rfl (by decide) rfl (by decide) (iW2 _ (List.mem_of_getElem? (i := 25) rfl)) rfl (dk dX11_chanceOf_0 1 rfl) ?_
  refine k_iload_n C (dk dX11_chanceOf_0 2 rfl) rfl 1 rfl ?_
  refine k_iald C rfl rfl (dk dX11_chanceOf_0 3 rfl) h (fun x1 h => ?_)
  by_cases e0 : x1 = (2 : Int32)
  · replace h := (if_pos e0).symm.trans h
    refine k_tsIn (q := (2 : Int32)) (tgt := 44) C (dk dX11_chanceOf_0 4 rfl) (by decide) (by decide) rfl (by decide) e0 ?_
    refine k_bipush (v := (9 : Int32)) C (dk dX11_chanceOf_0 5 rfl) (by decide) ?_
    exact k_iret E (dk dX11_chanceOf_0 6 rfl) h
  replace h := (if_neg e0).symm.trans h
  by_cases e1 : x1 = (3 : Int32)
  · replace h := (if_pos e1).symm.trans h
    refine k_tsIn (q := (3 : Int32)) (tgt := 47) C (dk dX11_chanceOf_0 4 rfl) (by decide) (by decide) rfl (by decide) e1 ?_
    refine k_iconst (v := (5 : Int32)) C (dk dX11_chanceOf_0 7 rfl) (by decide) ?_
    exact k_iret E (dk dX11_chanceOf_0 8 rfl) h
  replace h := (if_neg e1).symm.trans h
  by_cases e2 : x1 = (4 : Int32)
  · replace h := (if_pos e2).symm.trans h
    refine k_tsIn (q := (4 : Int32)) (tgt := 49) C (dk dX11_chanceOf_0 4 rfl) (by decide) (by decide) rfl (by decide) e2 ?_
    refine k_iconst (v := (5 : Int32)) C (dk dX11_chanceOf_0 9 rfl) (by decide) ?_
    refine k_aload_n C (dk dX11_chanceOf_0 10 rfl) rfl 0 rfl ?_
    refine k_getR (q := 47) (D := RX11) (T := TX11) (N := 39) (ci := 6) (k := 1) C iCX11 rfl (by decide) rfl (by decide) (iW2 _ (List.mem_of_getElem? (i := 26) rfl)) rfl (dk dX11_chanceOf_0 11 rfl) ?_
    refine k_iload_n C (dk dX11_chanceOf_0 12 rfl) rfl 1 rfl ?_
    refine k_iald C rfl rfl (dk dX11_chanceOf_0 13 rfl) h (fun x2 h => ?_)
    refine k_iconst (v := (3 : Int32)) C (dk dX11_chanceOf_0 14 rfl) (by decide) ?_
    refine k_idiv C (dk dX11_chanceOf_0 15 rfl) (by decide) ?_
    refine k_iadd C (dk dX11_chanceOf_0 16 rfl) ?_
    exact k_iret E (dk dX11_chanceOf_0 17 rfl) h
  replace h := (if_neg e2).symm.trans h
  by_cases e3 : x1 = (5 : Int32)
  · replace h := (if_pos e3).symm.trans h
    refine k_tsIn (q := (5 : Int32)) (tgt := 60) C (dk dX11_chanceOf_0 4 rfl) (by decide) (by decide) rfl (by decide) e3 ?_
    refine k_iconst (v := (0 : Int32)) C (dk dX11_chanceOf_0 18 rfl) (by decide) ?_
    exact k_iret E (dk dX11_chanceOf_0 19 rfl) h
  replace h := (if_neg e3).symm.trans h
  by_cases e4 : x1 = (6 : Int32)
  · replace h := (if_pos e4).symm.trans h
    refine k_tsIn (q := (6 : Int32)) (tgt := 62) C (dk dX11_chanceOf_0 4 rfl) (by decide) (by decide) rfl (by decide) e4 ?_
    refine k_bipush (v := (8 : Int32)) C (dk dX11_chanceOf_0 20 rfl) (by decide) ?_
    exact k_iret E (dk dX11_chanceOf_0 21 rfl) h
  replace h := (if_neg e4).symm.trans h
  by_cases e5 : x1 = (7 : Int32)
  · replace h := (if_pos e5).symm.trans h
    refine k_tsIn (q := (7 : Int32)) (tgt := 65) C (dk dX11_chanceOf_0 4 rfl) (by decide) (by decide) rfl (by decide) e5 ?_
    refine k_bipush (v := (10 : Int32)) C (dk dX11_chanceOf_0 22 rfl) (by decide) ?_
    refine k_aload_n C (dk dX11_chanceOf_0 23 rfl) rfl 0 rfl ?_
    refine k_getR (q := 47) (D := RX11) (T := TX11) (N := 39) (ci := 6) (k := 1) C iCX11 rfl (by decide) rfl (by decide) (iW2 _ (List.mem_of_getElem? (i := 26) rfl)) rfl (dk dX11_chanceOf_0 24 rfl) ?_
    refine k_iload_n C (dk dX11_chanceOf_0 25 rfl) rfl 1 rfl ?_
    refine k_iald C rfl rfl (dk dX11_chanceOf_0 26 rfl) h (fun x3 h => ?_)
    refine k_isub C (dk dX11_chanceOf_0 27 rfl) ?_
    exact k_iret E (dk dX11_chanceOf_0 28 rfl) h
  replace h := (if_neg e5).symm.trans h
  refine k_tsOut (tgt := 75) C (dk dX11_chanceOf_0 4 rfl) (by have n0 : x1.toInt ≠ 2 := fun q => e0 (Int32.toInt_inj.mp (q.trans (by decide))); have n1 : x1.toInt ≠ 3 := fun q => e1 (Int32.toInt_inj.mp (q.trans (by decide))); have n2 : x1.toInt ≠ 4 := fun q => e2 (Int32.toInt_inj.mp (q.trans (by decide))); have n3 : x1.toInt ≠ 5 := fun q => e3 (Int32.toInt_inj.mp (q.trans (by decide))); have n4 : x1.toInt ≠ 6 := fun q => e4 (Int32.toInt_inj.mp (q.trans (by decide))); have n5 : x1.toInt ≠ 7 := fun q => e5 (Int32.toInt_inj.mp (q.trans (by decide))); omega) (by decide) ?_
  refine k_bipush (v := (10 : Int32)) C (dk dX11_chanceOf_0 29 rfl) (by decide) ?_
  exact k_iret E (dk dX11_chanceOf_0 30 rfl) h
set_option maxRecDepth 100000 in
set_option maxHeartbeats 4000000 in
theorem qX11_farOf (l : Launch) (g : G) (hg : gOK g) {a1 : Int32} {a2 : Int32}  {s0 σe : St} {v : Int32} (h : mX11_farOf a1 a2 s0 = some (v, σe)) : Mc l g yX11_farOf cX11_farOf 3 (some .int) { frames := 1, cells := 0, slots := 0, locals := 21 } [.ref (g.2.2 45), .int a1, .int a2] s0 (some (.int v)) σe := by
  refine k_enter hg pnRX11 rfl (Nat.le_of_ble_eq_true rfl) ?_
  intro WK E
  have C := kX_y E
  unfold mX11_farOf at h
  show WK 0 [(0, .ref (g.2.2 45)), (1, .int a1), (2, .int a2)] [] s0
  refine k_iload_n C (dk dX11_farOf_0 0 rfl) rfl 1 rfl ?_
  refine k_bipush (v := (6 : Int32)) C (dk dX11_farOf_0 1 rfl) (by decide) ?_
  refine k_idiv C (dk dX11_farOf_0 2 rfl) (by decide) ?_
  refine k_iload_n C (dk dX11_farOf_0 3 rfl) rfl 2 rfl ?_
  refine k_bipush (v := (6 : Int32)) C (dk dX11_farOf_0 4 rfl) (by decide) ?_
  refine k_idiv C (dk dX11_farOf_0 5 rfl) (by decide) ?_
  refine k_isub C (dk dX11_farOf_0 6 rfl) ?_
  refine cl2_k h (fun x2 s1 hc h => ?_)
  refine k_cs (As := [.int ((a1 / (6 : Int32)) - (a2 / (6 : Int32)))]) (st := []) C (qX11_plainly l g hg hc) (iW10 _ (List.mem_of_getElem? (i := 18) rfl)) (iW10 _ (List.mem_of_getElem? (i := 19) rfl)) (iW0 _ (List.mem_of_getElem? (i := 5) rfl)) (iW10 _ (List.mem_of_getElem? (i := 20) rfl)) rfl rfl hdX11_plainly (by decide) rfl rfl (Nat.le_of_ble_eq_true rfl) (dk dX11_farOf_0 7 rfl) ?_
  refine k_iload_n C (dk dX11_farOf_0 8 rfl) rfl 1 rfl ?_
  refine k_bipush (v := (6 : Int32)) C (dk dX11_farOf_0 9 rfl) (by decide) ?_
  refine k_irem C (dk dX11_farOf_0 10 rfl) (by decide) ?_
  refine k_iload_n C (dk dX11_farOf_0 11 rfl) rfl 2 rfl ?_
  refine k_bipush (v := (6 : Int32)) C (dk dX11_farOf_0 12 rfl) (by decide) ?_
  refine k_irem C (dk dX11_farOf_0 13 rfl) (by decide) ?_
  refine k_isub C (dk dX11_farOf_0 14 rfl) ?_
  refine cl2_k h (fun x4 s3 hc h => ?_)
  refine k_cs (As := [.int ((a1 - a1 / (6 : Int32) * (6 : Int32)) - (a2 - a2 / (6 : Int32) * (6 : Int32)))]) (st := [.int x2]) C (qX11_plainly l g hg hc) (iW10 _ (List.mem_of_getElem? (i := 18) rfl)) (iW10 _ (List.mem_of_getElem? (i := 19) rfl)) (iW0 _ (List.mem_of_getElem? (i := 5) rfl)) (iW10 _ (List.mem_of_getElem? (i := 20) rfl)) rfl rfl hdX11_plainly (by decide) rfl rfl (Nat.le_of_ble_eq_true rfl) (dk dX11_farOf_0 15 rfl) ?_
  refine k_iadd C (dk dX11_farOf_0 16 rfl) ?_
  refine k_aload_n C (dk dX11_farOf_0 17 rfl) rfl 0 rfl ?_
  refine k_iload_n C (dk dX11_farOf_0 18 rfl) rfl 1 rfl ?_
  refine cl2_k h (fun x6 s5 hc h => ?_)
  refine k_cv (T := TX11) (N := 39) (ci := 6) (ob := 45) (As := [.int a1]) (st := [.int (x2 + x4)]) C (qX11_heightOf l g hg hc) (iW10 _ (List.mem_of_getElem? (i := 21) rfl)) (iW10 _ (List.mem_of_getElem? (i := 22) rfl)) (iW10 _ (List.mem_of_getElem? (i := 23) rfl)) (iW0 _ (List.mem_of_getElem? (i := 5) rfl)) (iW10 _ (List.mem_of_getElem? (i := 24) rfl)) rfl rfl hdX11_heightOf (by decide) rfl (by decide) rfl rfl rfl (Nat.le_of_ble_eq_true rfl) (dk dX11_farOf_0 19 rfl) ?_
  refine k_aload_n C (dk dX11_farOf_0 20 rfl) rfl 0 rfl ?_
  refine k_iload_n C (dk dX11_farOf_0 21 rfl) rfl 2 rfl ?_
  refine cl2_k h (fun x8 s7 hc h => ?_)
  refine k_cv (T := TX11) (N := 39) (ci := 6) (ob := 45) (As := [.int a2]) (st := [.int x6, .int (x2 + x4)]) C (qX11_heightOf l g hg hc) (iW10 _ (List.mem_of_getElem? (i := 21) rfl)) (iW10 _ (List.mem_of_getElem? (i := 22) rfl)) (iW10 _ (List.mem_of_getElem? (i := 23) rfl)) (iW0 _ (List.mem_of_getElem? (i := 5) rfl)) (iW10 _ (List.mem_of_getElem? (i := 24) rfl)) rfl rfl hdX11_heightOf (by decide) rfl (by decide) rfl rfl rfl (Nat.le_of_ble_eq_true rfl) (dk dX11_farOf_0 22 rfl) ?_
  refine k_isub C (dk dX11_farOf_0 23 rfl) ?_
  refine cl2_k h (fun x10 s9 hc h => ?_)
  refine k_cs (As := [.int (x6 - x8)]) (st := [.int (x2 + x4)]) C (qX11_plainly l g hg hc) (iW10 _ (List.mem_of_getElem? (i := 18) rfl)) (iW10 _ (List.mem_of_getElem? (i := 19) rfl)) (iW0 _ (List.mem_of_getElem? (i := 5) rfl)) (iW10 _ (List.mem_of_getElem? (i := 20) rfl)) rfl rfl hdX11_plainly (by decide) rfl rfl (Nat.le_of_ble_eq_true rfl) (dk dX11_farOf_0 24 rfl) ?_
  refine k_iconst (v := (2 : Int32)) C (dk dX11_farOf_0 25 rfl) (by decide) ?_
  refine k_idiv C (dk dX11_farOf_0 26 rfl) (by decide) ?_
  refine k_iadd C (dk dX11_farOf_0 27 rfl) ?_
  exact k_iret E (dk dX11_farOf_0 28 rfl) h
