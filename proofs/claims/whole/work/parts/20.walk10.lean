set_option maxRecDepth 100000 in
set_option maxHeartbeats 4000000 in
theorem qX11_mean (l : Launch) (g : G) (hg : gOK g) {a1 : Int32}  {s0 σe : St} {v : Int64} (h : mX11_mean a1 s0 = some (v, σe)) : Mc l g yX11_mean cX11_mean 5 (some .long) { frames := 5, cells := 0, slots := 0, locals := 109 } [.ref (g.2.2 45), .int a1] s0 (some (.long v)) σe := by
  refine k_enter hg pnRX11 rfl (Nat.le_of_ble_eq_true rfl) ?_
  intro WK E
  have C := kX_y E
  unfold mX11_mean at h
  show WK 0 [(0, .ref (g.2.2 45)), (1, .int a1)] [] s0
  refine k_aload_n C (dk dX11_mean_0 0 rfl) rfl 0 rfl ?_
  refine k_iconst (v := (0 : Int32)) C (dk dX11_mean_0 1 rfl) (by decide) ?_
  refine k_putI (D := RX11) (T := TX11) (N := 39) (ci := 6) (k := 16) C iCX11 tyX11_ok nmX11 rfl (by decide) rfl (by decide) (iW3 _ (List.mem_of_getElem? (i := 20) rfl)) rfl rfl flq6_16 flp6_16 (dk dX11_mean_0 2 rfl) h (fun s1 h => ?_)
  refine k_iload_n C (dk dX11_mean_0 3 rfl) rfl 1 rfl ?_
  refine k_i2l C (dk dX11_mean_0 4 rfl) ?_
  refine k_lconst (v := (0 : Int64)) C (dk dX11_mean_0 5 rfl) (by decide) ?_
  refine k_lconst (v := (1 : Int64)) C (dk dX11_mean_0 6 rfl) (by decide) ?_
  refine cl2_k h (fun x3 s2 hc h => ?_)
  refine k_cs (As := [.long a1.toInt64, .long (0 : Int64), .long (1 : Int64)]) (st := []) C (qX11_in l g hg hc) (iW8 _ (List.mem_of_getElem? (i := 16) rfl)) (iW8 _ (List.mem_of_getElem? (i := 17) rfl)) (iW0 _ (List.mem_of_getElem? (i := 5) rfl)) (iW8 _ (List.mem_of_getElem? (i := 18) rfl)) rfl rfl hdX11_in (by decide) rfl rfl (Nat.le_of_ble_eq_true rfl) (dk dX11_mean_0 7 rfl) ?_
  refine k_if_ne (tgt := 19) C (dk dX11_mean_0 8 rfl) (by decide) h (fun h => ?_) (fun h => ?_)
  ·
    refine k_lconst (v := (0 : Int64)) C (dk dX11_mean_0 11 rfl) (by decide) ?_
    refine k_lstore_n (lv' := [(2, .long (0 : Int64)), (0, .ref (g.2.2 45)), (1, .int a1)]) C (dk dX11_mean_0 12 rfl) rfl (by decide) rfl ?_
    refine k_iconst (v := (0 : Int32)) C (dk dX11_mean_0 13 rfl) (by decide) ?_
    refine k_istore (lv' := [(4, .int (0 : Int32)), (2, .long (0 : Int64)), (0, .ref (g.2.2 45)), (1, .int a1)]) C (dk dX11_mean_0 14 rfl) (by decide) rfl ?_
    refine kl_L (P := (fun J24 => ∀ (y4 : Int64) (y5 : Int32) (s6 : St), J24 y4 y5 s6 = some (v, σe) → WK 24 [(0, .ref (g.2.2 45)), (1, .int a1), (2, .long y4), (4, .int y5)] [] s6)) h (fun _ _ _ h => nomatch h) (fun J24 hJ24 y4 y5 s6 h => ?_) (fun J24 hJ24 h => ?_)
    ·
      unfold mX11_mean_24 at h
      refine k_iload C (dk dX11_mean_0 15 rfl) 3 rfl ?_
      refine k_sipush (v := (1296 : Int32)) C (dk dX11_mean_0 16 rfl) (by decide) ?_
      refine k_icmp_ge (tgt := 77) C (dk dX11_mean_0 17 rfl) (by decide) h (fun h => ?_) (fun h => ?_)
      ·
        refine k_aload_n C (dk dX11_mean_1 11 rfl) rfl 0 rfl ?_
        refine cl2_k h (fun x8 s7 hc h => ?_)
        refine k_cv (T := TX11) (N := 39) (ci := 6) (ob := 45) (As := []) (st := []) C (qX11_pairMany l g hg hc) (iW17 _ (List.mem_of_getElem? (i := 4) rfl)) (iW17 _ (List.mem_of_getElem? (i := 5) rfl)) (iW17 _ (List.mem_of_getElem? (i := 6) rfl)) (iW0 _ (List.mem_of_getElem? (i := 5) rfl)) (iW17 _ (List.mem_of_getElem? (i := 7) rfl)) rfl rfl hdX11_pairMany (by decide) rfl (by decide) rfl rfl rfl (Nat.le_of_ble_eq_true rfl) (dk dX11_mean_1 12 rfl) ?_
        refine k_if_ne (tgt := 89) C (dk dX11_mean_1 13 rfl) (by decide) h (fun h => ?_) (fun h => ?_)
        ·
          refine k_lload_n C (dk dX11_mean_1 17 rfl) rfl 2 rfl ?_
          refine k_aload_n C (dk dX11_mean_1 18 rfl) rfl 0 rfl ?_
          refine cl2_k h (fun x10 s9 hc h => ?_)
          refine k_cv (T := TX11) (N := 39) (ci := 6) (ob := 45) (As := []) (st := [.long y4]) C (qX11_pairMany l g hg hc) (iW17 _ (List.mem_of_getElem? (i := 4) rfl)) (iW17 _ (List.mem_of_getElem? (i := 5) rfl)) (iW17 _ (List.mem_of_getElem? (i := 6) rfl)) (iW0 _ (List.mem_of_getElem? (i := 5) rfl)) (iW17 _ (List.mem_of_getElem? (i := 7) rfl)) rfl rfl hdX11_pairMany (by decide) rfl (by decide) rfl rfl rfl (Nat.le_of_ble_eq_true rfl) (dk dX11_mean_1 19 rfl) ?_
          refine k_i2l C (dk dX11_mean_1 20 rfl) ?_
          refine k_iload_n C (dk dX11_mean_1 21 rfl) rfl 1 rfl ?_
          refine cl2_k h (fun x12 s11 hc h => ?_)
          refine k_cs (As := [.long y4, .long x10.toInt64, .int a1]) (st := []) C (qX11_partOf l g hg hc) (iW31 _ (List.mem_of_getElem? (i := 12) rfl)) (iW31 _ (List.mem_of_getElem? (i := 13) rfl)) (iW0 _ (List.mem_of_getElem? (i := 5) rfl)) (iW31 _ (List.mem_of_getElem? (i := 14) rfl)) rfl rfl hdX11_partOf (by decide) rfl rfl (Nat.le_of_ble_eq_true rfl) (dk dX11_mean_1 22 rfl) ?_
          exact k_lret E (dk dX11_mean_1 23 rfl) h
        ·
          refine k_iload_n C (dk dX11_mean_1 14 rfl) rfl 1 rfl ?_
          refine k_i2l C (dk dX11_mean_1 15 rfl) ?_
          refine k_goto (tgt := 99) C (dk dX11_mean_1 16 rfl) (by decide) ?_
          exact k_lret E (dk dX11_mean_1 23 rfl) h
      ·
        refine k_lload_n C (dk dX11_mean_0 18 rfl) rfl 2 rfl ?_
        refine k_aload_n C (dk dX11_mean_0 19 rfl) rfl 0 rfl ?_
        refine k_iload C (dk dX11_mean_0 20 rfl) 3 rfl ?_
        refine k_bipush (v := (36 : Int32)) C (dk dX11_mean_0 21 rfl) (by decide) ?_
        refine k_idiv C (dk dX11_mean_0 22 rfl) (by decide) ?_
        refine k_iload C (dk dX11_mean_0 23 rfl) 3 rfl ?_
        refine k_bipush (v := (36 : Int32)) C (dk dX11_mean_0 24 rfl) (by decide) ?_
        refine k_irem C (dk dX11_mean_0 25 rfl) (by decide) ?_
        refine cl2_k h (fun x14 s13 hc h => ?_)
        refine k_cv (T := TX11) (N := 39) (ci := 6) (ob := 45) (As := [.int (y5 / (36 : Int32)), .int (y5 - y5 / (36 : Int32) * (36 : Int32))]) (st := [.long y4]) C (qX11_isPair l g hg hc) (iW17 _ (List.mem_of_getElem? (i := 8) rfl)) (iW17 _ (List.mem_of_getElem? (i := 9) rfl)) (iW17 _ (List.mem_of_getElem? (i := 10) rfl)) (iW0 _ (List.mem_of_getElem? (i := 5) rfl)) (iW17 _ (List.mem_of_getElem? (i := 11) rfl)) rfl rfl hdX11_isPair (by decide) rfl (by decide) rfl rfl rfl (Nat.le_of_ble_eq_true rfl) (dk dX11_mean_0 26 rfl) ?_
        refine kl_J (P := (fun J69 => ∀ (y15 : Int64) (s16 : St), J69 y15 s16 = some (v, σe) → WK 69 [(0, .ref (g.2.2 45)), (1, .int a1), (4, .int y5)] [.long y15, .long y4] s16)) h (fun y15 s16 h => ?_) (fun J69 hJ69 h => ?_)
        ·
          unfold mX11_mean_69 at h
          refine k_ladd C (dk dX11_mean_1 7 rfl) ?_
          refine nmL h (fun x17 h => ?_)
          refine k_lstore_n (lv' := [(2, .long x17), (0, .ref (g.2.2 45)), (1, .int a1), (4, .int y5)]) C (dk dX11_mean_1 8 rfl) rfl (by decide) rfl ?_
          refine k_iinc (lv' := [(4, .int (y5 + 1)), (2, .long x17), (0, .ref (g.2.2 45)), (1, .int a1)]) C (dk dX11_mean_1 9 rfl) (j := 3) rfl rfl (by decide) rfl ?_
          refine k_goto (tgt := 24) C (dk dX11_mean_1 10 rfl) (by decide) ?_
          refine k_sub C [2, 3, 1, 0] rfl ?_
          exact hJ24 _ _ _ h
        ·
          refine k_if_eq (tgt := 68) C (dk dX11_mean_0 27 rfl) (by decide) h (fun h => ?_) (fun h => ?_)
          ·
            refine k_lconst (v := (0 : Int64)) C (dk dX11_mean_1 6 rfl) (by decide) ?_
            refine k_sub C [0, 1, 3] rfl ?_
            exact hJ69 _ _ h
          ·
            refine k_aload_n C (dk dX11_mean_0 28 rfl) rfl 0 rfl ?_
            refine k_iload C (dk dX11_mean_0 29 rfl) 3 rfl ?_
            refine k_bipush (v := (36 : Int32)) C (dk dX11_mean_0 30 rfl) (by decide) ?_
            refine k_idiv C (dk dX11_mean_0 31 rfl) (by decide) ?_
            refine k_iload C (dk dX11_mean_1 0 rfl) 3 rfl ?_
            refine k_bipush (v := (36 : Int32)) C (dk dX11_mean_1 1 rfl) (by decide) ?_
            refine k_irem C (dk dX11_mean_1 2 rfl) (by decide) ?_
            refine cl2_k h (fun x19 s18 hc h => ?_)
            refine k_cv (T := TX11) (N := 39) (ci := 6) (ob := 45) (As := [.int (y5 / (36 : Int32)), .int (y5 - y5 / (36 : Int32) * (36 : Int32))]) (st := [.long y4]) C (qX11_farOf l g hg hc) (iW10 _ (List.mem_of_getElem? (i := 14) rfl)) (iW10 _ (List.mem_of_getElem? (i := 15) rfl)) (iW10 _ (List.mem_of_getElem? (i := 16) rfl)) (iW0 _ (List.mem_of_getElem? (i := 5) rfl)) (iW10 _ (List.mem_of_getElem? (i := 17) rfl)) rfl rfl hdX11_farOf (by decide) rfl (by decide) rfl rfl rfl (Nat.le_of_ble_eq_true rfl) (dk dX11_mean_1 3 rfl) ?_
            refine k_i2l C (dk dX11_mean_1 4 rfl) ?_
            refine k_goto (tgt := 69) C (dk dX11_mean_1 5 rfl) (by decide) ?_
            refine k_sub C [0, 1, 3] rfl ?_
            exact hJ69 _ _ h
    ·
      refine k_sub C [2, 3, 1, 0] rfl ?_
      exact hJ24 _ _ _ h
  ·
    refine k_ldc2 (v := (-1000000001 : Int64)) C (dk dX11_mean_0 9 rfl) (iW31 _ (List.mem_of_getElem? (i := 6) rfl)) ?_
    exact k_lret E (dk dX11_mean_0 10 rfl) h
set_option maxRecDepth 100000 in
set_option maxHeartbeats 4000000 in
theorem qX11_curve (l : Launch) (g : G) (hg : gOK g) {a1 : Int32}  {s0 σe : St} {v : Int32} (h : mX11_curve a1 s0 = some (v, σe)) : Mc l g yX11_curve cX11_curve 4 (some .int) { frames := 5, cells := 0, slots := 0, locals := 109 } [.ref (g.2.2 45), .int a1] s0 (some (.int v)) σe := by
  refine k_enter hg pnRX11 rfl (Nat.le_of_ble_eq_true rfl) ?_
  intro WK E
  have C := kX_y E
  unfold mX11_curve at h
  show WK 0 [(0, .ref (g.2.2 45)), (1, .int a1)] [] s0
  refine k_aload_n C (dk dX11_curve_0 0 rfl) rfl 0 rfl ?_
  refine k_iconst (v := (0 : Int32)) C (dk dX11_curve_0 1 rfl) (by decide) ?_
  refine k_putI (D := RX11) (T := TX11) (N := 39) (ci := 6) (k := 16) C iCX11 tyX11_ok nmX11 rfl (by decide) rfl (by decide) (iW3 _ (List.mem_of_getElem? (i := 20) rfl)) rfl rfl flq6_16 flp6_16 (dk dX11_curve_0 2 rfl) h (fun s1 h => ?_)
  refine k_iload_n C (dk dX11_curve_0 3 rfl) rfl 1 rfl ?_
  refine k_i2l C (dk dX11_curve_0 4 rfl) ?_
  refine k_lconst (v := (0 : Int64)) C (dk dX11_curve_0 5 rfl) (by decide) ?_
  refine k_ldc2 (v := (20 : Int64)) C (dk dX11_curve_0 6 rfl) (iW13 _ (List.mem_of_getElem? (i := 13) rfl)) ?_
  refine cl2_k h (fun x3 s2 hc h => ?_)
  refine k_cs (As := [.long a1.toInt64, .long (0 : Int64), .long (20 : Int64)]) (st := []) C (qX11_in l g hg hc) (iW8 _ (List.mem_of_getElem? (i := 16) rfl)) (iW8 _ (List.mem_of_getElem? (i := 17) rfl)) (iW0 _ (List.mem_of_getElem? (i := 5) rfl)) (iW8 _ (List.mem_of_getElem? (i := 18) rfl)) rfl rfl hdX11_in (by decide) rfl rfl (Nat.le_of_ble_eq_true rfl) (dk dX11_curve_0 7 rfl) ?_
  refine k_if_ne (tgt := 19) C (dk dX11_curve_0 8 rfl) (by decide) h (fun h => ?_) (fun h => ?_)
  ·
    refine k_aload_n C (dk dX11_curve_0 11 rfl) rfl 0 rfl ?_
    refine k_getI (D := RX11) (T := TX11) (N := 39) (ci := 6) (k := 4) C iCX11 rfl (by decide) rfl (by decide) (iW2 _ (List.mem_of_getElem? (i := 28) rfl)) rfl (dk dX11_curve_0 12 rfl) h (fun x4 h => ?_)
    refine k_istore_n (lv' := [(2, .int x4), (0, .ref (g.2.2 45)), (1, .int a1)]) C (dk dX11_curve_0 13 rfl) rfl (by decide) rfl ?_
    refine k_aload_n C (dk dX11_curve_0 14 rfl) rfl 1 rfl ?_
    refine k_iload_n C (dk dX11_curve_0 15 rfl) rfl 2 rfl ?_
    refine k_putI (D := RX11) (T := TX11) (N := 39) (ci := 6) (k := 4) C iCX11 tyX11_ok nmX11 rfl (by decide) rfl (by decide) (iW2 _ (List.mem_of_getElem? (i := 28) rfl)) rfl rfl flq6_4 flp6_4 (dk dX11_curve_0 16 rfl) h (fun s5 h => ?_)
    refine k_aload_n C (dk dX11_curve_0 17 rfl) rfl 1 rfl ?_
    refine cl2_k h (fun x7 s6 hc h => ?_)
    refine k_cv (T := TX11) (N := 39) (ci := 6) (ob := 45) (As := []) (st := []) C (qX11_pairMany l g hg hc) (iW17 _ (List.mem_of_getElem? (i := 4) rfl)) (iW17 _ (List.mem_of_getElem? (i := 5) rfl)) (iW17 _ (List.mem_of_getElem? (i := 6) rfl)) (iW0 _ (List.mem_of_getElem? (i := 5) rfl)) (iW17 _ (List.mem_of_getElem? (i := 7) rfl)) rfl rfl hdX11_pairMany (by decide) rfl (by decide) rfl rfl rfl (Nat.le_of_ble_eq_true rfl) (dk dX11_curve_0 18 rfl) ?_
    refine k_istore_n (lv' := [(3, .int x7), (2, .int x4), (0, .ref (g.2.2 45)), (1, .int a1)]) C (dk dX11_curve_0 19 rfl) rfl (by decide) rfl ?_
    refine k_aload_n C (dk dX11_curve_0 20 rfl) rfl 2 rfl ?_
    refine k_iload_n C (dk dX11_curve_0 21 rfl) rfl 1 rfl ?_
    refine k_putI (D := RX11) (T := TX11) (N := 39) (ci := 6) (k := 4) C iCX11 tyX11_ok nmX11 rfl (by decide) rfl (by decide) (iW2 _ (List.mem_of_getElem? (i := 28) rfl)) rfl rfl flq6_4 flp6_4 (dk dX11_curve_0 22 rfl) h (fun s8 h => ?_)
    refine k_iload_n C (dk dX11_curve_0 23 rfl) rfl 0 rfl ?_
    exact k_iret E (dk dX11_curve_0 24 rfl) h
  ·
    refine k_iconst (v := (-1 : Int32)) C (dk dX11_curve_0 9 rfl) (by decide) ?_
    exact k_iret E (dk dX11_curve_0 10 rfl) h
set_option maxRecDepth 100000 in
set_option maxHeartbeats 4000000 in
theorem qX11_skipped (l : Launch) (g : G) (hg : gOK g) {a1 : Int32}  {s0 σe : St} {v : Int64} (h : mX11_skipped a1 s0 = some (v, σe)) : Mc l g yX11_skipped cX11_skipped 2 (some .long) { frames := 0, cells := 0, slots := 0, locals := 0 } [.ref (g.2.2 45), .int a1] s0 (some (.long v)) σe := by
  refine k_enter hg pnRX11 rfl (Nat.le_of_ble_eq_true rfl) ?_
  intro WK E
  have C := kX_y E
  unfold mX11_skipped at h
  show WK 0 [(0, .ref (g.2.2 45)), (1, .int a1)] [] s0
  refine k_aload_n C (dk dX11_skipped_0 0 rfl) rfl 0 rfl ?_
  refine k_getR (q := 51) (D := RX11) (T := TX11) (N := 39) (ci := 6) (k := 13) C iCX11 rfl (by decide) rfl (by decide) (iW3 _ (List.mem_of_getElem? (i := 4) rfl)) rfl (dk dX11_skipped_0 1 rfl) ?_
  refine k_iload_n C (dk dX11_skipped_0 2 rfl) rfl 1 rfl ?_
  refine k_iald C rfl rfl (dk dX11_skipped_0 3 rfl) h (fun x1 h => ?_)
  refine k_if_ne (tgt := 15) C (dk dX11_skipped_0 4 rfl) (by decide) h (fun h => ?_) (fun h => ?_)
  ·
    refine k_aload_n C (dk dX11_skipped_0 7 rfl) rfl 0 rfl ?_
    refine k_getR (q := 51) (D := RX11) (T := TX11) (N := 39) (ci := 6) (k := 13) C iCX11 rfl (by decide) rfl (by decide) (iW3 _ (List.mem_of_getElem? (i := 4) rfl)) rfl (dk dX11_skipped_0 8 rfl) ?_
    refine k_iload_n C (dk dX11_skipped_0 9 rfl) rfl 1 rfl ?_
    refine k_iald C rfl rfl (dk dX11_skipped_0 10 rfl) h (fun x2 h => ?_)
    refine k_iconst (v := (1 : Int32)) C (dk dX11_skipped_0 11 rfl) (by decide) ?_
    refine k_icmp_ne (tgt := 31) C (dk dX11_skipped_0 12 rfl) (by decide) h (fun h => ?_) (fun h => ?_)
    ·
      refine k_ldc2 (v := (-9223372036854775808 : Int64)) C (dk dX11_skipped_0 15 rfl) (iW33 _ (List.mem_of_getElem? (i := 8) rfl)) ?_
      exact k_lret E (dk dX11_skipped_0 16 rfl) h
    ·
      refine k_ldc2 (v := (-2147483648 : Int64)) C (dk dX11_skipped_0 13 rfl) (iW33 _ (List.mem_of_getElem? (i := 7) rfl)) ?_
      refine k_goto (tgt := 34) C (dk dX11_skipped_0 14 rfl) (by decide) ?_
      exact k_lret E (dk dX11_skipped_0 16 rfl) h
  ·
    refine k_ldc2 (v := (-128 : Int64)) C (dk dX11_skipped_0 5 rfl) (iW33 _ (List.mem_of_getElem? (i := 6) rfl)) ?_
    refine k_goto (tgt := 34) C (dk dX11_skipped_0 6 rfl) (by decide) ?_
    exact k_lret E (dk dX11_skipped_0 16 rfl) h
set_option maxRecDepth 100000 in
set_option maxHeartbeats 4000000 in
theorem qX11_stayOrGo (l : Launch) (g : G) (hg : gOK g) {a1 : Int64}  {s0 σe : St} {v : Int64} (h : mX11_stayOrGo a1 s0 = some (v, σe)) : Mc l g yX11_stayOrGo cX11_stayOrGo 3 (some .long) { frames := 3, cells := 0, slots := 0, locals := 71 } [.ref (g.2.2 45), .long a1] s0 (some (.long v)) σe := by
  refine k_enter hg pnRX11 rfl (Nat.le_of_ble_eq_true rfl) ?_
  intro WK E
  have C := kX_y E
  unfold mX11_stayOrGo at h
  show WK 0 [(0, .ref (g.2.2 45)), (1, .long a1)] [] s0
  refine k_aload_n C (dk dX11_stayOrGo_0 0 rfl) rfl 0 rfl ?_
  refine k_lload_n C (dk dX11_stayOrGo_0 1 rfl) rfl 1 rfl ?_
  refine cl2_k h (fun x2 s1 hc h => ?_)
  refine k_cv (T := TX11) (N := 39) (ci := 6) (ob := 45) (As := [.long a1]) (st := []) C (qX11_goOn l g hg hc) (iW15 _ (List.mem_of_getElem? (i := 15) rfl)) (iW15 _ (List.mem_of_getElem? (i := 16) rfl)) (iW15 _ (List.mem_of_getElem? (i := 17) rfl)) (iW0 _ (List.mem_of_getElem? (i := 5) rfl)) (iW15 _ (List.mem_of_getElem? (i := 18) rfl)) rfl rfl hdX11_goOn (by decide) rfl (by decide) rfl rfl rfl (Nat.le_of_ble_eq_true rfl) (dk dX11_stayOrGo_0 2 rfl) ?_
  refine k_lload_n C (dk dX11_stayOrGo_0 3 rfl) rfl 1 rfl ?_
  refine k_lor C (dk dX11_stayOrGo_0 4 rfl) ?_
  exact k_lret E (dk dX11_stayOrGo_0 5 rfl) h
set_option maxRecDepth 100000 in
set_option maxHeartbeats 4000000 in
theorem qX11_judge (l : Launch) (g : G) (hg : gOK g) {a1 : Int32}  {s0 σe : St} {v : Int32} (h : mX11_judge a1 s0 = some (v, σe)) : Mc l g yX11_judge cX11_judge 9 (some .int) { frames := 4, cells := 0, slots := 0, locals := 93 } [.ref (g.2.2 45), .int a1] s0 (some (.int v)) σe := by
  refine k_enter hg pnRX11 rfl (Nat.le_of_ble_eq_true rfl) ?_
  intro WK E
  have C := kX_y E
  unfold mX11_judge at h
  show WK 0 [(0, .ref (g.2.2 45)), (1, .int a1)] [] s0
  refine k_aload_n C (dk dX11_judge_0 0 rfl) rfl 0 rfl ?_
  refine k_iconst (v := (0 : Int32)) C (dk dX11_judge_0 1 rfl) (by decide) ?_
  refine k_putI (D := RX11) (T := TX11) (N := 39) (ci := 6) (k := 16) C iCX11 tyX11_ok nmX11 rfl (by decide) rfl (by decide) (iW3 _ (List.mem_of_getElem? (i := 20) rfl)) rfl rfl flq6_16 flp6_16 (dk dX11_judge_0 2 rfl) h (fun s1 h => ?_)
  refine k_iload_n C (dk dX11_judge_0 3 rfl) rfl 1 rfl ?_
  refine k_i2l C (dk dX11_judge_0 4 rfl) ?_
  refine k_lconst (v := (0 : Int64)) C (dk dX11_judge_0 5 rfl) (by decide) ?_
  refine k_ldc2 (v := (7 : Int64)) C (dk dX11_judge_0 6 rfl) (iW8 _ (List.mem_of_getElem? (i := 15) rfl)) ?_
  refine cl2_k h (fun x3 s2 hc h => ?_)
  refine k_cs (As := [.long a1.toInt64, .long (0 : Int64), .long (7 : Int64)]) (st := []) C (qX11_in l g hg hc) (iW8 _ (List.mem_of_getElem? (i := 16) rfl)) (iW8 _ (List.mem_of_getElem? (i := 17) rfl)) (iW0 _ (List.mem_of_getElem? (i := 5) rfl)) (iW8 _ (List.mem_of_getElem? (i := 18) rfl)) rfl rfl hdX11_in (by decide) rfl rfl (Nat.le_of_ble_eq_true rfl) (dk dX11_judge_0 7 rfl) ?_
  refine kl_J (P := (fun J38 => ∀ (y4 : Int32) (s5 : St), J38 y4 s5 = some (v, σe) → WK 38 [(0, .ref (g.2.2 45)), (1, .int a1)] [.int y4] s5)) h (fun y4 s5 h => ?_) (fun J38 hJ38 h => ?_)
  ·
    unfold mX11_judge_38 at h
    refine k_istore_n (lv' := [(2, .int y4), (0, .ref (g.2.2 45)), (1, .int a1)]) C (dk dX11_judge_0 19 rfl) rfl (by decide) rfl ?_
    refine k_iload_n C (dk dX11_judge_0 20 rfl) rfl 0 rfl ?_
    refine k_if_ge (tgt := 45) C (dk dX11_judge_0 21 rfl) (by decide) h (fun h => ?_) (fun h => ?_)
    ·
      refine k_lconst (v := (1 : Int64)) C (dk dX11_judge_0 24 rfl) (by decide) ?_
      refine k_aload_n C (dk dX11_judge_0 25 rfl) rfl 1 rfl ?_
      refine k_getI (D := RX11) (T := TX11) (N := 39) (ci := 6) (k := 5) C iCX11 rfl (by decide) rfl (by decide) (iW2 _ (List.mem_of_getElem? (i := 29) rfl)) rfl (dk dX11_judge_0 26 rfl) h (fun x6 h => ?_)
      refine k_lshl C (dk dX11_judge_0 27 rfl) ?_
      refine nmL h (fun x7 h => ?_)
      refine k_lstore_n (lv' := [(3, .long x7), (2, .int y4), (0, .ref (g.2.2 45)), (1, .int a1)]) C (dk dX11_judge_0 28 rfl) rfl (by decide) rfl ?_
      refine k_iconst (v := (0 : Int32)) C (dk dX11_judge_0 29 rfl) (by decide) ?_
      refine k_istore (lv' := [(5, .int (0 : Int32)), (3, .long x7), (2, .int y4), (0, .ref (g.2.2 45)), (1, .int a1)]) C (dk dX11_judge_0 30 rfl) (by decide) rfl ?_
      refine kl_L (P := (fun J55 => ∀ (y8 : Int64) (y9 : Int32) (s10 : St), J55 y8 y9 s10 = some (v, σe) → WK 55 [(0, .ref (g.2.2 45)), (1, .int a1), (3, .long y8), (5, .int y9)] [] s10)) h (fun _ _ _ h => nomatch h) (fun J55 hJ55 y8 y9 s10 h => ?_) (fun J55 hJ55 h => ?_)
      ·
        unfold mX11_judge_55 at h
        refine k_iload C (dk dX11_judge_0 31 rfl) 3 rfl ?_
        refine k_aload_n C (dk dX11_judge_1 0 rfl) rfl 0 rfl ?_
        refine k_getR (q := 52) (D := RX11) (T := TX11) (N := 39) (ci := 6) (k := 14) C iCX11 rfl (by decide) rfl (by decide) (iW3 _ (List.mem_of_getElem? (i := 5) rfl)) rfl (dk dX11_judge_1 1 rfl) ?_
        refine k_iload_n C (dk dX11_judge_1 2 rfl) rfl 1 rfl ?_
        refine k_iald C rfl rfl (dk dX11_judge_1 3 rfl) h (fun x11 h => ?_)
        refine k_icmp_ge (tgt := 166) C (dk dX11_judge_1 4 rfl) (by decide) h (fun h => ?_) (fun h => ?_)
        ·
          refine k_bipush (v := (-4 : Int32)) C (dk dX11_judge_2 26 rfl) (by decide) ?_
          exact k_iret E (dk dX11_judge_2 27 rfl) h
        ·
          refine k_aload_n C (dk dX11_judge_1 5 rfl) rfl 0 rfl ?_
          refine k_getR (q := 53) (D := RX11) (T := TX11) (N := 39) (ci := 6) (k := 15) C iCX11 rfl (by decide) rfl (by decide) (iW3 _ (List.mem_of_getElem? (i := 6) rfl)) rfl (dk dX11_judge_1 6 rfl) ?_
          refine k_bipush (v := (100 : Int32)) C (dk dX11_judge_1 7 rfl) (by decide) ?_
          refine k_iload_n C (dk dX11_judge_1 8 rfl) rfl 1 rfl ?_
          refine k_imul C (dk dX11_judge_1 9 rfl) ?_
          refine k_iload C (dk dX11_judge_1 10 rfl) 3 rfl ?_
          refine k_iadd C (dk dX11_judge_1 11 rfl) ?_
          refine k_lald C rfl rfl (dk dX11_judge_1 12 rfl) h (fun x12 h => ?_)
          refine k_lstore (lv' := [(6, .long x12), (0, .ref (g.2.2 45)), (1, .int a1), (3, .long y8), (5, .int y9)]) C (dk dX11_judge_1 13 rfl) (by decide) rfl ?_
          refine k_iload C (dk dX11_judge_1 14 rfl) 4 rfl ?_
          refine kl_J (P := (fun J94 => ∀ (y13 : Int64) (s14 : St), J94 y13 s14 = some (v, σe) → WK 94 [(0, .ref (g.2.2 45)), (1, .int a1), (5, .int y9), (6, .long x12)] [.long y13] s14)) h (fun y13 s14 h => ?_) (fun J94 hJ94 h => ?_)
          ·
            unfold mX11_judge_94 at h
            refine k_lstore_n (lv' := [(3, .long y13), (0, .ref (g.2.2 45)), (1, .int a1), (5, .int y9), (6, .long x12)]) C (dk dX11_judge_1 21 rfl) rfl (by decide) rfl ?_
            refine k_lload C (dk dX11_judge_1 22 rfl) 4 rfl ?_
            refine k_aload_n C (dk dX11_judge_1 23 rfl) rfl 1 rfl ?_
            refine k_iload_n C (dk dX11_judge_1 24 rfl) rfl 2 rfl ?_
            refine cl2_k h (fun x16 s15 hc h => ?_)
            refine k_cv (T := TX11) (N := 39) (ci := 6) (ob := 45) (As := [.int a1]) (st := [.long x12]) C (qX11_skipped l g hg hc) (iW33 _ (List.mem_of_getElem? (i := 2) rfl)) (iW33 _ (List.mem_of_getElem? (i := 3) rfl)) (iW33 _ (List.mem_of_getElem? (i := 4) rfl)) (iW0 _ (List.mem_of_getElem? (i := 5) rfl)) (iW33 _ (List.mem_of_getElem? (i := 5) rfl)) rfl rfl hdX11_skipped (by decide) rfl (by decide) rfl rfl rfl (Nat.le_of_ble_eq_true rfl) (dk dX11_judge_1 25 rfl) ?_
            refine k_lcmp C (dk dX11_judge_1 26 rfl) ?_
            refine kl_J (P := (fun J160 => ∀ (y17 : Int64) (y18 : Int32) (s19 : St), J160 y17 y18 s19 = some (v, σe) → WK 160 [(0, .ref (g.2.2 45)), (1, .int a1), (3, .long y17), (5, .int y18)] [] s19)) h (fun y17 y18 s19 h => ?_) (fun J160 hJ160 h => ?_)
            ·
              unfold mX11_judge_160 at h
              refine k_iinc (lv' := [(5, .int (y18 + 1)), (0, .ref (g.2.2 45)), (1, .int a1), (3, .long y17)]) C (dk dX11_judge_2 24 rfl) (j := 3) rfl rfl (by decide) rfl ?_
              refine k_goto (tgt := 55) C (dk dX11_judge_2 25 rfl) (by decide) ?_
              refine k_sub C [1, 2, 3, 0] rfl ?_
              exact hJ55 _ _ _ h
            ·
              refine k_if_eq (tgt := 160) C (dk dX11_judge_1 27 rfl) (by decide) h (fun h => ?_) (fun h => ?_)
              ·
                refine k_sub C [1, 2, 0, 3] rfl ?_
                exact hJ160 _ _ _ h
              ·
                refine k_lload C (dk dX11_judge_1 28 rfl) 4 rfl ?_
                refine cl2_k h (fun x21 s20 hc h => ?_)
                refine k_cs (As := [.long x12]) (st := []) C (qX11_isCell l g hg hc) (iW11 _ (List.mem_of_getElem? (i := 21) rfl)) (iW11 _ (List.mem_of_getElem? (i := 22) rfl)) (iW0 _ (List.mem_of_getElem? (i := 5) rfl)) (iW11 _ (List.mem_of_getElem? (i := 23) rfl)) rfl rfl hdX11_isCell (by decide) rfl rfl (Nat.le_of_ble_eq_true rfl) (dk dX11_judge_1 29 rfl) ?_
                refine kl_J (P := (fun J144 => ∀ (y22 : Int32) (s23 : St), J144 y22 s23 = some (v, σe) → WK 144 [(0, .ref (g.2.2 45)), (1, .int a1), (5, .int y9), (6, .long x12)] [.int y22] s23)) h (fun y22 s23 h => ?_) (fun J144 hJ144 h => ?_)
                ·
                  unfold mX11_judge_144 at h
                  refine k_istore (lv' := [(8, .int y22), (0, .ref (g.2.2 45)), (1, .int a1), (5, .int y9), (6, .long x12)]) C (dk dX11_judge_2 14 rfl) (by decide) rfl ?_
                  refine k_iload C (dk dX11_judge_2 15 rfl) 0 rfl ?_
                  refine k_if_ne (tgt := 154) C (dk dX11_judge_2 16 rfl) (by decide) h (fun h => ?_) (fun h => ?_)
                  ·
                    refine k_lconst (v := (1 : Int64)) C (dk dX11_judge_2 19 rfl) (by decide) ?_
                    refine k_lload C (dk dX11_judge_2 20 rfl) 4 rfl ?_
                    refine k_l2i C (dk dX11_judge_2 21 rfl) ?_
                    refine k_lshl C (dk dX11_judge_2 22 rfl) ?_
                    refine nmL h (fun x24 h => ?_)
                    refine k_lstore_n (lv' := [(3, .long x24), (8, .int y22), (0, .ref (g.2.2 45)), (1, .int a1), (5, .int y9), (6, .long x12)]) C (dk dX11_judge_2 23 rfl) rfl (by decide) rfl ?_
                    refine k_sub C [2, 3, 0, 4] rfl ?_
                    exact hJ160 _ _ _ h
                  ·
                    refine k_iload C (dk dX11_judge_2 17 rfl) 3 rfl ?_
                    exact k_iret E (dk dX11_judge_2 18 rfl) h
                ·
                  refine kl_J (P := (fun J143 => ∀ (s25 : St), J143 s25 = some (v, σe) → WK 143 [(0, .ref (g.2.2 45)), (1, .int a1), (5, .int y9), (6, .long x12)] [] s25)) h (fun s25 h => ?_) (fun J143 hJ143 h => ?_)
                  ·
                    unfold mX11_judge_143 at h
                    refine k_iconst (v := (0 : Int32)) C (dk dX11_judge_2 13 rfl) (by decide) ?_
                    exact hJ144 _ _ h
                  ·
                    refine k_if_eq (tgt := 143) C (dk dX11_judge_1 30 rfl) (by decide) h (fun h => ?_) (fun h => ?_)
                    ·
                      refine k_sub C [1, 2, 3, 4] rfl ?_
                      exact hJ143 _ h
                    ·
                      refine k_lload_n C (dk dX11_judge_1 31 rfl) rfl 0 rfl ?_
                      refine k_lload C (dk dX11_judge_2 0 rfl) 4 rfl ?_
                      refine k_l2i C (dk dX11_judge_2 1 rfl) ?_
                      refine cl2_k h (fun x27 s26 hc h => ?_)
                      refine k_cs (As := [.long y13, .int x12.toInt32]) (st := []) C (qX11_isOn l g hg hc) (iW15 _ (List.mem_of_getElem? (i := 12) rfl)) (iW15 _ (List.mem_of_getElem? (i := 13) rfl)) (iW0 _ (List.mem_of_getElem? (i := 5) rfl)) (iW15 _ (List.mem_of_getElem? (i := 14) rfl)) rfl rfl hdX11_isOn (by decide) rfl rfl (Nat.le_of_ble_eq_true rfl) (dk dX11_judge_2 2 rfl) ?_
                      refine k_if_eq (tgt := 143) C (dk dX11_judge_2 3 rfl) (by decide) h (fun h => ?_) (fun h => ?_)
                      ·
                        refine k_sub C [1, 2, 3, 4] rfl ?_
                        exact hJ143 _ h
                      ·
                        refine k_iload C (dk dX11_judge_2 4 rfl) 3 rfl ?_
                        refine kl_J (P := (fun J139 => ∀ (s28 : St), J139 s28 = some (v, σe) → WK 139 [(0, .ref (g.2.2 45)), (1, .int a1), (5, .int y9), (6, .long x12)] [] s28)) h (fun s28 h => ?_) (fun J139 hJ139 h => ?_)
                        ·
                          unfold mX11_judge_139 at h
                          refine k_iconst (v := (1 : Int32)) C (dk dX11_judge_2 11 rfl) (by decide) ?_
                          refine k_goto (tgt := 144) C (dk dX11_judge_2 12 rfl) (by decide) ?_
                          exact hJ144 _ _ h
                        ·
                          refine k_if_eq (tgt := 139) C (dk dX11_judge_2 5 rfl) (by decide) h (fun h => ?_) (fun h => ?_)
                          ·
                            refine k_sub C [1, 2, 3, 4] rfl ?_
                            exact hJ139 _ h
                          ·
                            refine k_aload_n C (dk dX11_judge_2 6 rfl) rfl 1 rfl ?_
                            refine k_lload C (dk dX11_judge_2 7 rfl) 4 rfl ?_
                            refine k_l2i C (dk dX11_judge_2 8 rfl) ?_
                            refine cl2_k h (fun x30 s29 hc h => ?_)
                            refine k_cv (T := TX11) (N := 39) (ci := 6) (ob := 45) (As := [.int x12.toInt32]) (st := []) C (qX11_isOpen l g hg hc) (iW10 _ (List.mem_of_getElem? (i := 6) rfl)) (iW10 _ (List.mem_of_getElem? (i := 7) rfl)) (iW10 _ (List.mem_of_getElem? (i := 8) rfl)) (iW0 _ (List.mem_of_getElem? (i := 5) rfl)) (iW10 _ (List.mem_of_getElem? (i := 9) rfl)) rfl rfl hdX11_isOpen (by decide) rfl (by decide) rfl rfl rfl (Nat.le_of_ble_eq_true rfl) (dk dX11_judge_2 9 rfl) ?_
                            refine k_if_eq (tgt := 143) C (dk dX11_judge_2 10 rfl) (by decide) h (fun h => ?_) (fun h => ?_)
                            ·
                              refine k_sub C [1, 2, 3, 4] rfl ?_
                              exact hJ143 _ h
                            ·
                              refine k_sub C [1, 2, 3, 4] rfl ?_
                              exact hJ139 _ h
          ·
            refine k_if_ne (tgt := 89) C (dk dX11_judge_1 15 rfl) (by decide) h (fun h => ?_) (fun h => ?_)
            ·
              refine k_aload_n C (dk dX11_judge_1 18 rfl) rfl 1 rfl ?_
              refine k_lload_n C (dk dX11_judge_1 19 rfl) rfl 3 rfl ?_
              refine cl2_k h (fun x32 s31 hc h => ?_)
              refine k_cv (T := TX11) (N := 39) (ci := 6) (ob := 45) (As := [.long y8]) (st := []) C (qX11_stayOrGo l g hg hc) (iW32 _ (List.mem_of_getElem? (i := 28) rfl)) (iW32 _ (List.mem_of_getElem? (i := 29) rfl)) (iW33 _ (List.mem_of_getElem? (i := 0) rfl)) (iW0 _ (List.mem_of_getElem? (i := 5) rfl)) (iW33 _ (List.mem_of_getElem? (i := 1) rfl)) rfl rfl hdX11_stayOrGo (by decide) rfl (by decide) rfl rfl rfl (Nat.le_of_ble_eq_true rfl) (dk dX11_judge_1 20 rfl) ?_
              refine k_sub C [1, 2, 4, 0] rfl ?_
              exact hJ94 _ _ h
            ·
              refine k_lload_n C (dk dX11_judge_1 16 rfl) rfl 3 rfl ?_
              refine k_goto (tgt := 94) C (dk dX11_judge_1 17 rfl) (by decide) ?_
              refine k_sub C [1, 2, 4, 0] rfl ?_
              exact hJ94 _ _ h
      ·
        refine k_sub C [3, 4, 1, 0] rfl ?_
        exact hJ55 _ _ _ h
    ·
      refine k_iload_n C (dk dX11_judge_0 22 rfl) rfl 0 rfl ?_
      exact k_iret E (dk dX11_judge_0 23 rfl) h
  ·
    refine k_if_ne (tgt := 21) C (dk dX11_judge_0 8 rfl) (by decide) h (fun h => ?_) (fun h => ?_)
    ·
      refine k_aload_n C (dk dX11_judge_0 11 rfl) rfl 0 rfl ?_
      refine k_getI (D := RX11) (T := TX11) (N := 39) (ci := 6) (k := 5) C iCX11 rfl (by decide) rfl (by decide) (iW2 _ (List.mem_of_getElem? (i := 29) rfl)) rfl (dk dX11_judge_0 12 rfl) h (fun x33 h => ?_)
      refine k_if_ge (tgt := 33) C (dk dX11_judge_0 13 rfl) (by decide) h (fun h => ?_) (fun h => ?_)
      ·
        refine k_aload_n C (dk dX11_judge_0 16 rfl) rfl 0 rfl ?_
        refine k_iload_n C (dk dX11_judge_0 17 rfl) rfl 1 rfl ?_
        refine cl2_k h (fun x35 s34 hc h => ?_)
        refine k_cv (T := TX11) (N := 39) (ci := 6) (ob := 45) (As := [.int a1]) (st := []) C (qX11_wrongRow l g hg hc) (iW8 _ (List.mem_of_getElem? (i := 11) rfl)) (iW8 _ (List.mem_of_getElem? (i := 12) rfl)) (iW8 _ (List.mem_of_getElem? (i := 13) rfl)) (iW0 _ (List.mem_of_getElem? (i := 5) rfl)) (iW8 _ (List.mem_of_getElem? (i := 14) rfl)) rfl rfl hdX11_wrongRow (by decide) rfl (by decide) rfl rfl rfl (Nat.le_of_ble_eq_true rfl) (dk dX11_judge_0 18 rfl) ?_
        exact hJ38 _ _ h
      ·
        refine k_bipush (v := (-3 : Int32)) C (dk dX11_judge_0 14 rfl) (by decide) ?_
        refine k_goto (tgt := 38) C (dk dX11_judge_0 15 rfl) (by decide) ?_
        exact hJ38 _ _ h
    ·
      refine k_iconst (v := (-1 : Int32)) C (dk dX11_judge_0 9 rfl) (by decide) ?_
      refine k_goto (tgt := 38) C (dk dX11_judge_0 10 rfl) (by decide) ?_
      exact hJ38 _ _ h
set_option maxRecDepth 100000 in
set_option maxHeartbeats 4000000 in
theorem qX11_drawBelow (l : Launch) (g : G) (hg : gOK g) {a1 : Int32}  {s0 σe : St} {v : Int32} (h : mX11_drawBelow a1 s0 = some (v, σe)) : Mc l g yX11_drawBelow cX11_drawBelow 2 (some .int) { frames := 0, cells := 0, slots := 0, locals := 0 } [.ref (g.2.2 45), .int a1] s0 (some (.int v)) σe := by
  refine k_enter hg pnRX11 rfl (Nat.le_of_ble_eq_true rfl) ?_
  intro WK E
  have C := kX_y E
  unfold mX11_drawBelow at h
  show WK 0 [(0, .ref (g.2.2 45)), (1, .int a1)] [] s0
  refine k_aload_n C (dk dX11_drawBelow_0 0 rfl) rfl 0 rfl ?_
  refine k_aload_n C (dk dX11_drawBelow_0 1 rfl) rfl 0 rfl ?_
  refine k_getI (D := RX11) (T := TX11) (N := 39) (ci := 6) (k := 37) C iCX11 rfl (by decide) rfl (by decide) (iW34 _ (List.mem_of_getElem? (i := 3) rfl)) rfl (dk dX11_drawBelow_0 2 rfl) h (fun x1 h => ?_)
  refine k_ldcw (v := (1103515245 : Int32)) C (dk dX11_drawBelow_0 3 rfl) (iW34 _ (List.mem_of_getElem? (i := 8) rfl)) ?_
  refine k_imul C (dk dX11_drawBelow_0 4 rfl) ?_
  refine k_sipush (v := (12345 : Int32)) C (dk dX11_drawBelow_0 5 rfl) (by decide) ?_
  refine k_iadd C (dk dX11_drawBelow_0 6 rfl) ?_
  refine k_putI (D := RX11) (T := TX11) (N := 39) (ci := 6) (k := 37) C iCX11 tyX11_ok nmX11 rfl (by decide) rfl (by decide) (iW34 _ (List.mem_of_getElem? (i := 3) rfl)) rfl rfl flq6_37 flp6_37 (dk dX11_drawBelow_0 7 rfl) h (fun s2 h => ?_)
  refine k_aload_n C (dk dX11_drawBelow_0 8 rfl) rfl 0 rfl ?_
  refine k_getI (D := RX11) (T := TX11) (N := 39) (ci := 6) (k := 37) C iCX11 rfl (by decide) rfl (by decide) (iW34 _ (List.mem_of_getElem? (i := 3) rfl)) rfl (dk dX11_drawBelow_0 9 rfl) h (fun x3 h => ?_)
  refine k_ldcw (v := (2147483647 : Int32)) C (dk dX11_drawBelow_0 10 rfl) (iW34 _ (List.mem_of_getElem? (i := 9) rfl)) ?_
  refine k_iand C (dk dX11_drawBelow_0 11 rfl) ?_
  refine k_ldcw (v := (65536 : Int32)) C (dk dX11_drawBelow_0 12 rfl) (iW34 _ (List.mem_of_getElem? (i := 10) rfl)) ?_
  refine k_idiv C (dk dX11_drawBelow_0 13 rfl) (by decide) ?_
  refine k_iload_n C (dk dX11_drawBelow_0 14 rfl) rfl 1 rfl ?_
  refine k_iremv C (dk dX11_drawBelow_0 15 rfl) h (fun h => ?_)
  exact k_iret E (dk dX11_drawBelow_0 16 rfl) h
set_option maxRecDepth 100000 in
set_option maxHeartbeats 4000000 in
theorem qX11_seeds (l : Launch) (g : G) (hg : gOK g) {a1 : Int32} {a2 : Int32} {a3 : Int32}  {s0 σe : St} {v : Int32} (h : mX11_seeds a1 a2 a3 s0 = some (v, σe)) : Mc l g yX11_seeds cX11_seeds 12 (some .int) { frames := 2, cells := 0, slots := 0, locals := 44 } [.ref (g.2.2 45), .int a1, .int a2, .int a3] s0 (some (.int v)) σe := by
  refine k_enter hg pnRX11 rfl (Nat.le_of_ble_eq_true rfl) ?_
  intro WK E
  have C := kX_y E
  unfold mX11_seeds at h
  show WK 0 [(0, .ref (g.2.2 45)), (1, .int a1), (2, .int a2), (3, .int a3)] [] s0
  refine k_aload_n C (dk dX11_seeds_0 0 rfl) rfl 0 rfl ?_
  refine k_iconst (v := (0 : Int32)) C (dk dX11_seeds_0 1 rfl) (by decide) ?_
  refine k_putI (D := RX11) (T := TX11) (N := 39) (ci := 6) (k := 16) C iCX11 tyX11_ok nmX11 rfl (by decide) rfl (by decide) (iW3 _ (List.mem_of_getElem? (i := 20) rfl)) rfl rfl flq6_16 flp6_16 (dk dX11_seeds_0 2 rfl) h (fun s1 h => ?_)
  refine k_iload_n C (dk dX11_seeds_0 3 rfl) rfl 1 rfl ?_
  refine k_i2l C (dk dX11_seeds_0 4 rfl) ?_
  refine k_lconst (v := (1 : Int64)) C (dk dX11_seeds_0 5 rfl) (by decide) ?_
  refine k_ldc2 (v := (20 : Int64)) C (dk dX11_seeds_0 6 rfl) (iW13 _ (List.mem_of_getElem? (i := 13) rfl)) ?_
  refine cl2_k h (fun x3 s2 hc h => ?_)
  refine k_cs (As := [.long a1.toInt64, .long (1 : Int64), .long (20 : Int64)]) (st := []) C (qX11_in l g hg hc) (iW8 _ (List.mem_of_getElem? (i := 16) rfl)) (iW8 _ (List.mem_of_getElem? (i := 17) rfl)) (iW0 _ (List.mem_of_getElem? (i := 5) rfl)) (iW8 _ (List.mem_of_getElem? (i := 18) rfl)) rfl rfl hdX11_in (by decide) rfl rfl (Nat.le_of_ble_eq_true rfl) (dk dX11_seeds_0 7 rfl) ?_
  refine k_if_eq (tgt := 27) C (dk dX11_seeds_0 8 rfl) (by decide) h (fun h => ?_) (fun h => ?_)
  ·
    refine k_iconst (v := (-1 : Int32)) C (dk dX11_seeds_0 15 rfl) (by decide) ?_
    exact k_iret E (dk dX11_seeds_0 16 rfl) h
  ·
    refine k_iload_n C (dk dX11_seeds_0 9 rfl) rfl 3 rfl ?_
    refine k_i2l C (dk dX11_seeds_0 10 rfl) ?_
    refine k_lconst (v := (0 : Int64)) C (dk dX11_seeds_0 11 rfl) (by decide) ?_
    refine k_lconst (v := (1 : Int64)) C (dk dX11_seeds_0 12 rfl) (by decide) ?_
    refine cl2_k h (fun x5 s4 hc h => ?_)
    refine k_cs (As := [.long a3.toInt64, .long (0 : Int64), .long (1 : Int64)]) (st := []) C (qX11_in l g hg hc) (iW8 _ (List.mem_of_getElem? (i := 16) rfl)) (iW8 _ (List.mem_of_getElem? (i := 17) rfl)) (iW0 _ (List.mem_of_getElem? (i := 5) rfl)) (iW8 _ (List.mem_of_getElem? (i := 18) rfl)) rfl rfl hdX11_in (by decide) rfl rfl (Nat.le_of_ble_eq_true rfl) (dk dX11_seeds_0 13 rfl) ?_
    refine k_if_ne (tgt := 29) C (dk dX11_seeds_0 14 rfl) (by decide) h (fun h => ?_) (fun h => ?_)
    ·
      refine k_aload_n C (dk dX11_seeds_0 17 rfl) rfl 0 rfl ?_
      refine cl2_k h (fun x7 s6 hc h => ?_)
      refine k_cv (T := TX11) (N := 39) (ci := 6) (ob := 45) (As := []) (st := []) C (qX11_areBoth l g hg hc) (iW21 _ (List.mem_of_getElem? (i := 6) rfl)) (iW21 _ (List.mem_of_getElem? (i := 7) rfl)) (iW21 _ (List.mem_of_getElem? (i := 8) rfl)) (iW0 _ (List.mem_of_getElem? (i := 5) rfl)) (iW21 _ (List.mem_of_getElem? (i := 9) rfl)) rfl rfl hdX11_areBoth (by decide) rfl (by decide) rfl rfl rfl (Nat.le_of_ble_eq_true rfl) (dk dX11_seeds_0 18 rfl) ?_
      refine k_if_ne (tgt := 39) C (dk dX11_seeds_0 19 rfl) (by decide) h (fun h => ?_) (fun h => ?_)
      ·
        refine k_aload_n C (dk dX11_seeds_0 22 rfl) rfl 0 rfl ?_
        refine k_iload_n C (dk dX11_seeds_0 23 rfl) rfl 2 rfl ?_
        refine k_putI (D := RX11) (T := TX11) (N := 39) (ci := 6) (k := 37) C iCX11 tyX11_ok nmX11 rfl (by decide) rfl (by decide) (iW34 _ (List.mem_of_getElem? (i := 3) rfl)) rfl rfl flq6_37 flp6_37 (dk dX11_seeds_0 24 rfl) h (fun s8 h => ?_)
        refine k_iconst (v := (0 : Int32)) C (dk dX11_seeds_0 25 rfl) (by decide) ?_
        refine k_istore (lv' := [(4, .int (0 : Int32)), (0, .ref (g.2.2 45)), (1, .int a1), (2, .int a2), (3, .int a3)]) C (dk dX11_seeds_0 26 rfl) (by decide) rfl ?_
        refine k_iconst (v := (0 : Int32)) C (dk dX11_seeds_0 27 rfl) (by decide) ?_
        refine k_istore (lv' := [(5, .int (0 : Int32)), (4, .int (0 : Int32)), (0, .ref (g.2.2 45)), (1, .int a1), (2, .int a2), (3, .int a3)]) C (dk dX11_seeds_0 28 rfl) (by decide) rfl ?_
        refine k_iconst (v := (0 : Int32)) C (dk dX11_seeds_0 29 rfl) (by decide) ?_
        refine k_istore (lv' := [(6, .int (0 : Int32)), (5, .int (0 : Int32)), (4, .int (0 : Int32)), (0, .ref (g.2.2 45)), (1, .int a1), (2, .int a2), (3, .int a3)]) C (dk dX11_seeds_0 30 rfl) (by decide) rfl ?_
        refine kl_L (P := (fun J53 => ∀ (y9 : Int32) (y10 : Int32) (y11 : Int32) (s12 : St), J53 y9 y10 y11 s12 = some (v, σe) → WK 53 [(0, .ref (g.2.2 45)), (1, .int a1), (3, .int a3), (4, .int y9), (5, .int y10), (6, .int y11)] [] s12)) h (fun _ _ _ _ h => nomatch h) (fun J53 hJ53 y9 y10 y11 s12 h => ?_) (fun J53 hJ53 h => ?_)
        ·
          unfold mX11_seeds_53 at h
          refine k_iload C (dk dX11_seeds_0 31 rfl) 5 rfl ?_
          refine k_iload_n C (dk dX11_seeds_1 0 rfl) rfl 1 rfl ?_
          refine k_icmp_ge (tgt := 197) C (dk dX11_seeds_1 1 rfl) (by decide) h (fun h => ?_) (fun h => ?_)
          ·
            refine k_iload_n C (dk dX11_seeds_3 5 rfl) rfl 2 rfl ?_
            refine k_if_ne (tgt := 206) C (dk dX11_seeds_3 6 rfl) (by decide) h (fun h => ?_) (fun h => ?_)
            ·
              refine k_iload C (dk dX11_seeds_3 9 rfl) 4 rfl ?_
              exact k_iret E (dk dX11_seeds_3 10 rfl) h
            ·
              refine k_iload C (dk dX11_seeds_3 7 rfl) 3 rfl ?_
              refine k_goto (tgt := 208) C (dk dX11_seeds_3 8 rfl) (by decide) ?_
              exact k_iret E (dk dX11_seeds_3 10 rfl) h
          ·
            refine k_aload_n C (dk dX11_seeds_1 2 rfl) rfl 0 rfl ?_
            refine k_getI (D := RX11) (T := TX11) (N := 39) (ci := 6) (k := 5) C iCX11 rfl (by decide) rfl (by decide) (iW2 _ (List.mem_of_getElem? (i := 29) rfl)) rfl (dk dX11_seeds_1 3 rfl) h (fun x13 h => ?_)
            refine k_istore (lv' := [(7, .int x13), (0, .ref (g.2.2 45)), (1, .int a1), (3, .int a3), (4, .int y9), (5, .int y10), (6, .int y11)]) C (dk dX11_seeds_1 4 rfl) (by decide) rfl ?_
            refine k_aload_n C (dk dX11_seeds_1 5 rfl) rfl 1 rfl ?_
            refine k_getI (D := RX11) (T := TX11) (N := 39) (ci := 6) (k := 6) C iCX11 rfl (by decide) rfl (by decide) (iW3 _ (List.mem_of_getElem? (i := 0) rfl)) rfl (dk dX11_seeds_1 6 rfl) h (fun x14 h => ?_)
            refine k_istore (lv' := [(8, .int x14), (7, .int x13), (0, .ref (g.2.2 45)), (1, .int a1), (3, .int a3), (4, .int y9), (5, .int y10), (6, .int y11)]) C (dk dX11_seeds_1 7 rfl) (by decide) rfl ?_
            refine k_iconst (v := (0 : Int32)) C (dk dX11_seeds_1 8 rfl) (by decide) ?_
            refine k_istore (lv' := [(9, .int (0 : Int32)), (8, .int x14), (7, .int x13), (0, .ref (g.2.2 45)), (1, .int a1), (3, .int a3), (4, .int y9), (5, .int y10), (6, .int y11)]) C (dk dX11_seeds_1 9 rfl) (by decide) rfl ?_
            refine kl_L (P := (fun J74 => ∀ (y15 : Int32) (y16 : Int32) (y17 : Int32) (y18 : Int32) (y19 : Int32) (s20 : St), J74 y15 y16 y17 y18 y19 s20 = some (v, σe) → WK 74 [(0, .ref (g.2.2 45)), (1, .int a1), (3, .int a3), (4, .int y15), (5, .int y16), (6, .int y11), (7, .int y17), (8, .int y18), (9, .int y19)] [] s20)) h (fun _ _ _ _ _ _ h => nomatch h) (fun J74 hJ74 y15 y16 y17 y18 y19 s20 h => ?_) (fun J74 hJ74 h => ?_)
            ·
              unfold mX11_seeds_74 at h
              refine k_iload C (dk dX11_seeds_1 10 rfl) 8 rfl ?_
              refine k_bipush (v := (20 : Int32)) C (dk dX11_seeds_1 11 rfl) (by decide) ?_
              refine k_icmp_ge (tgt := 191) C (dk dX11_seeds_1 12 rfl) (by decide) h (fun h => ?_) (fun h => ?_)
              ·
                refine k_iinc (lv' := [(6, .int (y11 + 1)), (0, .ref (g.2.2 45)), (1, .int a1), (3, .int a3), (4, .int y15), (5, .int y16), (7, .int y17), (8, .int y18), (9, .int y19)]) C (dk dX11_seeds_3 3 rfl) (j := 5) rfl rfl (by decide) rfl ?_
                refine k_goto (tgt := 53) C (dk dX11_seeds_3 4 rfl) (by decide) ?_
                refine k_sub C [1, 2, 3, 4, 5, 0] rfl ?_
                exact hJ53 _ _ _ _ h
              ·
                refine k_aload_n C (dk dX11_seeds_1 13 rfl) rfl 0 rfl ?_
                refine k_iload C (dk dX11_seeds_1 14 rfl) 6 rfl ?_
                refine k_aload_n C (dk dX11_seeds_1 15 rfl) rfl 0 rfl ?_
                refine k_iconst (v := (5 : Int32)) C (dk dX11_seeds_1 16 rfl) (by decide) ?_
                refine cl2_k h (fun x22 s21 hc h => ?_)
                refine k_cv (T := TX11) (N := 39) (ci := 6) (ob := 45) (As := [.int (5 : Int32)]) (st := [.int y17, .ref (g.2.2 45)]) C (qX11_drawBelow l g hg hc) (iW34 _ (List.mem_of_getElem? (i := 4) rfl)) (iW34 _ (List.mem_of_getElem? (i := 5) rfl)) (iW34 _ (List.mem_of_getElem? (i := 6) rfl)) (iW0 _ (List.mem_of_getElem? (i := 5) rfl)) (iW34 _ (List.mem_of_getElem? (i := 7) rfl)) rfl rfl hdX11_drawBelow (by decide) rfl (by decide) rfl rfl rfl (Nat.le_of_ble_eq_true rfl) (dk dX11_seeds_1 17 rfl) ?_
                refine cl2_k h (fun x24 s23 hc h => ?_)
                refine k_cv (T := TX11) (N := 39) (ci := 6) (ob := 45) (As := [.int y17, .int x22]) (st := []) C (qX11_goneTo l g hg hc) (iW9 _ (List.mem_of_getElem? (i := 29) rfl)) (iW10 _ (List.mem_of_getElem? (i := 0) rfl)) (iW10 _ (List.mem_of_getElem? (i := 1) rfl)) (iW0 _ (List.mem_of_getElem? (i := 5) rfl)) (iW10 _ (List.mem_of_getElem? (i := 2) rfl)) rfl rfl hdX11_goneTo (by decide) rfl (by decide) rfl rfl rfl (Nat.le_of_ble_eq_true rfl) (dk dX11_seeds_1 18 rfl) ?_
                refine k_istore (lv' := [(10, .int x24), (0, .ref (g.2.2 45)), (1, .int a1), (3, .int a3), (4, .int y15), (5, .int y16), (6, .int y11), (7, .int y17), (8, .int y18), (9, .int y19)]) C (dk dX11_seeds_1 19 rfl) (by decide) rfl ?_
                refine k_aload_n C (dk dX11_seeds_1 20 rfl) rfl 1 rfl ?_
                refine k_iload C (dk dX11_seeds_1 21 rfl) 8 rfl ?_
                refine k_aload_n C (dk dX11_seeds_1 22 rfl) rfl 1 rfl ?_
                refine k_iconst (v := (5 : Int32)) C (dk dX11_seeds_1 23 rfl) (by decide) ?_
                refine cl2_k h (fun x26 s25 hc h => ?_)
                refine k_cv (T := TX11) (N := 39) (ci := 6) (ob := 45) (As := [.int (5 : Int32)]) (st := [.int y18, .ref (g.2.2 45)]) C (qX11_drawBelow l g hg hc) (iW34 _ (List.mem_of_getElem? (i := 4) rfl)) (iW34 _ (List.mem_of_getElem? (i := 5) rfl)) (iW34 _ (List.mem_of_getElem? (i := 6) rfl)) (iW0 _ (List.mem_of_getElem? (i := 5) rfl)) (iW34 _ (List.mem_of_getElem? (i := 7) rfl)) rfl rfl hdX11_drawBelow (by decide) rfl (by decide) rfl rfl rfl (Nat.le_of_ble_eq_true rfl) (dk dX11_seeds_1 24 rfl) ?_
                refine cl2_k h (fun x28 s27 hc h => ?_)
                refine k_cv (T := TX11) (N := 39) (ci := 6) (ob := 45) (As := [.int y18, .int x26]) (st := []) C (qX11_goneTo l g hg hc) (iW9 _ (List.mem_of_getElem? (i := 29) rfl)) (iW10 _ (List.mem_of_getElem? (i := 0) rfl)) (iW10 _ (List.mem_of_getElem? (i := 1) rfl)) (iW0 _ (List.mem_of_getElem? (i := 5) rfl)) (iW10 _ (List.mem_of_getElem? (i := 2) rfl)) rfl rfl hdX11_goneTo (by decide) rfl (by decide) rfl rfl rfl (Nat.le_of_ble_eq_true rfl) (dk dX11_seeds_1 25 rfl) ?_
                refine k_istore (lv' := [(11, .int x28), (10, .int x24), (0, .ref (g.2.2 45)), (1, .int a1), (3, .int a3), (4, .int y15), (5, .int y16), (6, .int y11), (7, .int y17), (8, .int y18), (9, .int y19)]) C (dk dX11_seeds_1 26 rfl) (by decide) rfl ?_
                refine k_iload C (dk dX11_seeds_1 27 rfl) 1 rfl ?_
                refine kl_J (P := (fun J119 => ∀ (y29 : Int32) (s30 : St), J119 y29 s30 = some (v, σe) → WK 119 [(0, .ref (g.2.2 45)), (1, .int a1), (3, .int a3), (4, .int y15), (5, .int y16), (6, .int y11), (8, .int y18), (9, .int y19), (11, .int x28)] [.int y29] s30)) h (fun y29 s30 h => ?_) (fun J119 hJ119 h => ?_)
                ·
                  unfold mX11_seeds_119 at h
                  refine k_istore (lv' := [(7, .int y29), (0, .ref (g.2.2 45)), (1, .int a1), (3, .int a3), (4, .int y15), (5, .int y16), (6, .int y11), (8, .int y18), (9, .int y19), (11, .int x28)]) C (dk dX11_seeds_2 0 rfl) (by decide) rfl ?_
                  refine k_iload C (dk dX11_seeds_2 1 rfl) 9 rfl ?_
                  refine kl_J (P := (fun J133 => ∀ (y31 : Int32) (s32 : St), J133 y31 s32 = some (v, σe) → WK 133 [(0, .ref (g.2.2 45)), (1, .int a1), (3, .int a3), (4, .int y15), (5, .int y16), (6, .int y11), (7, .int y29), (9, .int y19)] [.int y31] s32)) h (fun y31 s32 h => ?_) (fun J133 hJ133 h => ?_)
                  ·
                    unfold mX11_seeds_133 at h
                    refine k_istore (lv' := [(8, .int y31), (0, .ref (g.2.2 45)), (1, .int a1), (3, .int a3), (4, .int y15), (5, .int y16), (6, .int y11), (7, .int y29), (9, .int y19)]) C (dk dX11_seeds_2 6 rfl) (by decide) rfl ?_
                    refine k_iload C (dk dX11_seeds_2 7 rfl) 4 rfl ?_
                    refine k_aload_n C (dk dX11_seeds_2 8 rfl) rfl 1 rfl ?_
                    refine k_iload C (dk dX11_seeds_2 9 rfl) 7 rfl ?_
                    refine k_iload C (dk dX11_seeds_2 10 rfl) 0 rfl ?_
                    refine cl2_k h (fun x34 s33 hc h => ?_)
                    refine k_cv (T := TX11) (N := 39) (ci := 6) (ob := 45) (As := [.int y29, .int y31]) (st := [.int y15]) C (qX11_farOf l g hg hc) (iW10 _ (List.mem_of_getElem? (i := 14) rfl)) (iW10 _ (List.mem_of_getElem? (i := 15) rfl)) (iW10 _ (List.mem_of_getElem? (i := 16) rfl)) (iW0 _ (List.mem_of_getElem? (i := 5) rfl)) (iW10 _ (List.mem_of_getElem? (i := 17) rfl)) rfl rfl hdX11_farOf (by decide) rfl (by decide) rfl rfl rfl (Nat.le_of_ble_eq_true rfl) (dk dX11_seeds_2 11 rfl) ?_
                    refine k_aload_n C (dk dX11_seeds_2 12 rfl) rfl 1 rfl ?_
                    refine k_getI (D := RX11) (T := TX11) (N := 39) (ci := 6) (k := 3) C iCX11 rfl (by decide) rfl (by decide) (iW2 _ (List.mem_of_getElem? (i := 27) rfl)) rfl (dk dX11_seeds_2 13 rfl) h (fun x35 h => ?_)
                    refine kl_J (P := (fun J157 => ∀ (y36 : Int32) (s37 : St), J157 y36 s37 = some (v, σe) → WK 157 [(0, .ref (g.2.2 45)), (1, .int a1), (3, .int a3), (5, .int y16), (6, .int y11), (7, .int y29), (8, .int y31), (9, .int y19)] [.int y36, .int y15] s37)) h (fun y36 s37 h => ?_) (fun J157 hJ157 h => ?_)
                    ·
                      unfold mX11_seeds_157 at h
                      refine k_iadd C (dk dX11_seeds_2 18 rfl) ?_
                      refine nmI h (fun x38 h => ?_)
                      refine k_istore (lv' := [(4, .int x38), (0, .ref (g.2.2 45)), (1, .int a1), (3, .int a3), (5, .int y16), (6, .int y11), (7, .int y29), (8, .int y31), (9, .int y19)]) C (dk dX11_seeds_2 19 rfl) (by decide) rfl ?_
                      refine k_iload C (dk dX11_seeds_2 20 rfl) 4 rfl ?_
                      refine k_aload_n C (dk dX11_seeds_2 21 rfl) rfl 1 rfl ?_
                      refine k_iload C (dk dX11_seeds_2 22 rfl) 6 rfl ?_
                      refine k_iload C (dk dX11_seeds_2 23 rfl) 7 rfl ?_
                      refine cl2_k h (fun x40 s39 hc h => ?_)
                      refine k_cv (T := TX11) (N := 39) (ci := 6) (ob := 45) (As := [.int y29, .int y31]) (st := [.int y16]) C (qX11_farOf l g hg hc) (iW10 _ (List.mem_of_getElem? (i := 14) rfl)) (iW10 _ (List.mem_of_getElem? (i := 15) rfl)) (iW10 _ (List.mem_of_getElem? (i := 16) rfl)) (iW0 _ (List.mem_of_getElem? (i := 5) rfl)) (iW10 _ (List.mem_of_getElem? (i := 17) rfl)) rfl rfl hdX11_farOf (by decide) rfl (by decide) rfl rfl rfl (Nat.le_of_ble_eq_true rfl) (dk dX11_seeds_2 24 rfl) ?_
                      refine k_aload_n C (dk dX11_seeds_2 25 rfl) rfl 1 rfl ?_
                      refine k_getI (D := RX11) (T := TX11) (N := 39) (ci := 6) (k := 4) C iCX11 rfl (by decide) rfl (by decide) (iW2 _ (List.mem_of_getElem? (i := 28) rfl)) rfl (dk dX11_seeds_2 26 rfl) h (fun x41 h => ?_)
                      refine kl_J (P := (fun J182 => ∀ (y42 : Int32) (s43 : St), J182 y42 s43 = some (v, σe) → WK 182 [(0, .ref (g.2.2 45)), (1, .int a1), (3, .int a3), (4, .int x38), (6, .int y11), (7, .int y29), (8, .int y31), (9, .int y19)] [.int y42, .int y16] s43)) h (fun y42 s43 h => ?_) (fun J182 hJ182 h => ?_)
                      ·
                        unfold mX11_seeds_182 at h
                        refine k_iadd C (dk dX11_seeds_2 31 rfl) ?_
                        refine nmI h (fun x44 h => ?_)
                        refine k_istore (lv' := [(5, .int x44), (0, .ref (g.2.2 45)), (1, .int a1), (3, .int a3), (4, .int x38), (6, .int y11), (7, .int y29), (8, .int y31), (9, .int y19)]) C (dk dX11_seeds_3 0 rfl) (by decide) rfl ?_
                        refine k_iinc (lv' := [(9, .int (y19 + 1)), (5, .int x44), (0, .ref (g.2.2 45)), (1, .int a1), (3, .int a3), (4, .int x38), (6, .int y11), (7, .int y29), (8, .int y31)]) C (dk dX11_seeds_3 1 rfl) (j := 8) rfl rfl (by decide) rfl ?_
                        refine k_goto (tgt := 74) C (dk dX11_seeds_3 2 rfl) (by decide) ?_
                        refine k_sub C [2, 3, 4, 5, 1, 6, 7, 8, 0] rfl ?_
                        exact hJ74 _ _ _ _ _ _ h
                      ·
                        refine k_icmp_le (tgt := 181) C (dk dX11_seeds_2 27 rfl) (by decide) h (fun h => ?_) (fun h => ?_)
                        ·
                          refine k_iconst (v := (0 : Int32)) C (dk dX11_seeds_2 30 rfl) (by decide) ?_
                          refine k_sub C [1, 2, 3, 0, 5, 6, 7, 8] rfl ?_
                          exact hJ182 _ _ h
                        ·
                          refine k_iconst (v := (1 : Int32)) C (dk dX11_seeds_2 28 rfl) (by decide) ?_
                          refine k_goto (tgt := 182) C (dk dX11_seeds_2 29 rfl) (by decide) ?_
                          refine k_sub C [1, 2, 3, 0, 5, 6, 7, 8] rfl ?_
                          exact hJ182 _ _ h
                    ·
                      refine k_icmp_ge (tgt := 156) C (dk dX11_seeds_2 14 rfl) (by decide) h (fun h => ?_) (fun h => ?_)
                      ·
                        refine k_iconst (v := (0 : Int32)) C (dk dX11_seeds_2 17 rfl) (by decide) ?_
                        refine k_sub C [1, 2, 3, 5, 6, 7, 0, 8] rfl ?_
                        exact hJ157 _ _ h
                      ·
                        refine k_iconst (v := (1 : Int32)) C (dk dX11_seeds_2 15 rfl) (by decide) ?_
                        refine k_goto (tgt := 157) C (dk dX11_seeds_2 16 rfl) (by decide) ?_
                        refine k_sub C [1, 2, 3, 5, 6, 7, 0, 8] rfl ?_
                        exact hJ157 _ _ h
                  ·
                    refine k_if_ge (tgt := 131) C (dk dX11_seeds_2 2 rfl) (by decide) h (fun h => ?_) (fun h => ?_)
                    ·
                      refine k_iload C (dk dX11_seeds_2 5 rfl) 9 rfl ?_
                      refine k_sub C [1, 2, 3, 4, 5, 6, 0, 8] rfl ?_
                      exact hJ133 _ _ h
                    ·
                      refine k_iload C (dk dX11_seeds_2 3 rfl) 7 rfl ?_
                      refine k_goto (tgt := 133) C (dk dX11_seeds_2 4 rfl) (by decide) ?_
                      refine k_sub C [1, 2, 3, 4, 5, 6, 0, 8] rfl ?_
                      exact hJ133 _ _ h
                ·
                  refine k_if_ge (tgt := 117) C (dk dX11_seeds_1 28 rfl) (by decide) h (fun h => ?_) (fun h => ?_)
                  ·
                    refine k_iload C (dk dX11_seeds_1 31 rfl) 1 rfl ?_
                    refine k_sub C [2, 3, 4, 5, 6, 7, 9, 10, 0] rfl ?_
                    exact hJ119 _ _ h
                  ·
                    refine k_iload C (dk dX11_seeds_1 29 rfl) 8 rfl ?_
                    refine k_goto (tgt := 119) C (dk dX11_seeds_1 30 rfl) (by decide) ?_
                    refine k_sub C [2, 3, 4, 5, 6, 7, 9, 10, 0] rfl ?_
                    exact hJ119 _ _ h
            ·
              refine k_sub C [3, 4, 5, 6, 7, 8, 2, 1, 0] rfl ?_
              exact hJ74 _ _ _ _ _ _ h
        ·
          refine k_sub C [3, 4, 6, 2, 1, 0] rfl ?_
          exact hJ53 _ _ _ _ h
      ·
        refine k_bipush (v := (-3 : Int32)) C (dk dX11_seeds_0 20 rfl) (by decide) ?_
        exact k_iret E (dk dX11_seeds_0 21 rfl) h
    ·
      refine k_iconst (v := (-1 : Int32)) C (dk dX11_seeds_0 15 rfl) (by decide) ?_
      exact k_iret E (dk dX11_seeds_0 16 rfl) h
set_option maxRecDepth 100000 in
set_option maxHeartbeats 4000000 in
theorem qX11_count (l : Launch) (g : G) (hg : gOK g) {a1 : Int32}  {s0 σe : St} {v : Int32} (h : mX11_count a1 s0 = some (v, σe)) : Mc l g yX11_count cX11_count 2 (some .int) { frames := 2, cells := 0, slots := 0, locals := 44 } [.ref (g.2.2 45), .int a1] s0 (some (.int v)) σe := by
  refine k_enter hg pnRX11 rfl (Nat.le_of_ble_eq_true rfl) ?_
  intro WK E
  have C := kX_y E
  unfold mX11_count at h
  show WK 0 [(0, .ref (g.2.2 45)), (1, .int a1)] [] s0
  refine k_aload_n C (dk dX11_count_0 0 rfl) rfl 0 rfl ?_
  refine k_iconst (v := (0 : Int32)) C (dk dX11_count_0 1 rfl) (by decide) ?_
  refine k_putI (D := RX11) (T := TX11) (N := 39) (ci := 6) (k := 16) C iCX11 tyX11_ok nmX11 rfl (by decide) rfl (by decide) (iW3 _ (List.mem_of_getElem? (i := 20) rfl)) rfl rfl flq6_16 flp6_16 (dk dX11_count_0 2 rfl) h (fun s1 h => ?_)
  refine k_iload_n C (dk dX11_count_0 3 rfl) rfl 1 rfl ?_
  by_cases e0 : a1 = (0 : Int32)
  · replace h := (if_pos e0).symm.trans h
    refine k_tsIn (q := (0 : Int32)) (tgt := 56) C (dk dX11_count_0 4 rfl) (by decide) (by decide) rfl (by decide) e0 ?_
    refine k_aload_n C (dk dX11_count_0 5 rfl) rfl 0 rfl ?_
    refine k_getI (D := RX11) (T := TX11) (N := 39) (ci := 6) (k := 5) C iCX11 rfl (by decide) rfl (by decide) (iW2 _ (List.mem_of_getElem? (i := 29) rfl)) rfl (dk dX11_count_0 6 rfl) h (fun x2 h => ?_)
    exact k_iret E (dk dX11_count_0 7 rfl) h
  replace h := (if_neg e0).symm.trans h
  by_cases e1 : a1 = (1 : Int32)
  · replace h := (if_pos e1).symm.trans h
    refine k_tsIn (q := (1 : Int32)) (tgt := 61) C (dk dX11_count_0 4 rfl) (by decide) (by decide) rfl (by decide) e1 ?_
    refine k_aload_n C (dk dX11_count_0 8 rfl) rfl 0 rfl ?_
    refine k_getI (D := RX11) (T := TX11) (N := 39) (ci := 6) (k := 6) C iCX11 rfl (by decide) rfl (by decide) (iW3 _ (List.mem_of_getElem? (i := 0) rfl)) rfl (dk dX11_count_0 9 rfl) h (fun x3 h => ?_)
    exact k_iret E (dk dX11_count_0 10 rfl) h
  replace h := (if_neg e1).symm.trans h
  by_cases e2 : a1 = (2 : Int32)
  · replace h := (if_pos e2).symm.trans h
    refine k_tsIn (q := (2 : Int32)) (tgt := 66) C (dk dX11_count_0 4 rfl) (by decide) (by decide) rfl (by decide) e2 ?_
    refine k_aload_n C (dk dX11_count_0 11 rfl) rfl 0 rfl ?_
    refine k_getI (D := RX11) (T := TX11) (N := 39) (ci := 6) (k := 7) C iCX11 rfl (by decide) rfl (by decide) (iW9 _ (List.mem_of_getElem? (i := 14) rfl)) rfl (dk dX11_count_0 12 rfl) h (fun x4 h => ?_)
    exact k_iret E (dk dX11_count_0 13 rfl) h
  replace h := (if_neg e2).symm.trans h
  by_cases e3 : a1 = (3 : Int32)
  · replace h := (if_pos e3).symm.trans h
    refine k_tsIn (q := (3 : Int32)) (tgt := 71) C (dk dX11_count_0 4 rfl) (by decide) (by decide) rfl (by decide) e3 ?_
    refine k_aload_n C (dk dX11_count_0 14 rfl) rfl 0 rfl ?_
    refine k_getI (D := RX11) (T := TX11) (N := 39) (ci := 6) (k := 8) C iCX11 rfl (by decide) rfl (by decide) (iW9 _ (List.mem_of_getElem? (i := 15) rfl)) rfl (dk dX11_count_0 15 rfl) h (fun x5 h => ?_)
    exact k_iret E (dk dX11_count_0 16 rfl) h
  replace h := (if_neg e3).symm.trans h
  by_cases e4 : a1 = (4 : Int32)
  · replace h := (if_pos e4).symm.trans h
    refine k_tsIn (q := (4 : Int32)) (tgt := 76) C (dk dX11_count_0 4 rfl) (by decide) (by decide) rfl (by decide) e4 ?_
    refine k_aload_n C (dk dX11_count_0 17 rfl) rfl 0 rfl ?_
    refine k_getI (D := RX11) (T := TX11) (N := 39) (ci := 6) (k := 9) C iCX11 rfl (by decide) rfl (by decide) (iW9 _ (List.mem_of_getElem? (i := 16) rfl)) rfl (dk dX11_count_0 18 rfl) h (fun x6 h => ?_)
    exact k_iret E (dk dX11_count_0 19 rfl) h
  replace h := (if_neg e4).symm.trans h
  by_cases e5 : a1 = (5 : Int32)
  · replace h := (if_pos e5).symm.trans h
    refine k_tsIn (q := (5 : Int32)) (tgt := 81) C (dk dX11_count_0 4 rfl) (by decide) (by decide) rfl (by decide) e5 ?_
    refine k_aload_n C (dk dX11_count_0 20 rfl) rfl 0 rfl ?_
    refine k_getI (D := RX11) (T := TX11) (N := 39) (ci := 6) (k := 3) C iCX11 rfl (by decide) rfl (by decide) (iW2 _ (List.mem_of_getElem? (i := 27) rfl)) rfl (dk dX11_count_0 21 rfl) h (fun x7 h => ?_)
    exact k_iret E (dk dX11_count_0 22 rfl) h
  replace h := (if_neg e5).symm.trans h
  by_cases e6 : a1 = (6 : Int32)
  · replace h := (if_pos e6).symm.trans h
    refine k_tsIn (q := (6 : Int32)) (tgt := 86) C (dk dX11_count_0 4 rfl) (by decide) (by decide) rfl (by decide) e6 ?_
    refine k_aload_n C (dk dX11_count_0 23 rfl) rfl 0 rfl ?_
    refine k_getI (D := RX11) (T := TX11) (N := 39) (ci := 6) (k := 4) C iCX11 rfl (by decide) rfl (by decide) (iW2 _ (List.mem_of_getElem? (i := 28) rfl)) rfl (dk dX11_count_0 24 rfl) h (fun x8 h => ?_)
    exact k_iret E (dk dX11_count_0 25 rfl) h
  replace h := (if_neg e6).symm.trans h
  by_cases e7 : a1 = (7 : Int32)
  · replace h := (if_pos e7).symm.trans h
    refine k_tsIn (q := (7 : Int32)) (tgt := 91) C (dk dX11_count_0 4 rfl) (by decide) (by decide) rfl (by decide) e7 ?_
    refine k_aload_n C (dk dX11_count_0 26 rfl) rfl 0 rfl ?_
    refine k_getI (D := RX11) (T := TX11) (N := 39) (ci := 6) (k := 2) C iCX11 rfl (by decide) rfl (by decide) (iW9 _ (List.mem_of_getElem? (i := 13) rfl)) rfl (dk dX11_count_0 27 rfl) h (fun x9 h => ?_)
    exact k_iret E (dk dX11_count_0 28 rfl) h
  replace h := (if_neg e7).symm.trans h
  by_cases e8 : a1 = (8 : Int32)
  · replace h := (if_pos e8).symm.trans h
    refine k_tsIn (q := (8 : Int32)) (tgt := 96) C (dk dX11_count_0 4 rfl) (by decide) (by decide) rfl (by decide) e8 ?_
    refine k_aload_n C (dk dX11_count_0 29 rfl) rfl 0 rfl ?_
    refine cl2_k h (fun x11 s10 hc h => ?_)
    refine k_cv (T := TX11) (N := 39) (ci := 6) (ob := 45) (As := []) (st := []) C (qX11_openCells l g hg hc) (iW15 _ (List.mem_of_getElem? (i := 8) rfl)) (iW15 _ (List.mem_of_getElem? (i := 9) rfl)) (iW15 _ (List.mem_of_getElem? (i := 10) rfl)) (iW0 _ (List.mem_of_getElem? (i := 5) rfl)) (iW15 _ (List.mem_of_getElem? (i := 11) rfl)) rfl rfl hdX11_openCells (by decide) rfl (by decide) rfl rfl rfl (Nat.le_of_ble_eq_true rfl) (dk dX11_count_0 30 rfl) ?_
    refine cl2_k h (fun x13 s12 hc h => ?_)
    refine k_cs (As := [.long x11]) (st := []) C (qX11_onesOf l g hg hc) (iW18 _ (List.mem_of_getElem? (i := 19) rfl)) (iW18 _ (List.mem_of_getElem? (i := 20) rfl)) (iW0 _ (List.mem_of_getElem? (i := 5) rfl)) (iW18 _ (List.mem_of_getElem? (i := 21) rfl)) rfl rfl hdX11_onesOf (by decide) rfl rfl (Nat.le_of_ble_eq_true rfl) (dk dX11_count_0 31 rfl) ?_
    exact k_iret E (dk dX11_count_1 0 rfl) h
  replace h := (if_neg e8).symm.trans h
  refine k_tsOut (tgt := 104) C (dk dX11_count_0 4 rfl) (by have n0 : a1.toInt ≠ 0 := fun q => e0 (Int32.toInt_inj.mp (q.trans (by decide))); have n1 : a1.toInt ≠ 1 := fun q => e1 (Int32.toInt_inj.mp (q.trans (by decide))); have n2 : a1.toInt ≠ 2 := fun q => e2 (Int32.toInt_inj.mp (q.trans (by decide))); have n3 : a1.toInt ≠ 3 := fun q => e3 (Int32.toInt_inj.mp (q.trans (by decide))); have n4 : a1.toInt ≠ 4 := fun q => e4 (Int32.toInt_inj.mp (q.trans (by decide))); have n5 : a1.toInt ≠ 5 := fun q => e5 (Int32.toInt_inj.mp (q.trans (by decide))); have n6 : a1.toInt ≠ 6 := fun q => e6 (Int32.toInt_inj.mp (q.trans (by decide))); have n7 : a1.toInt ≠ 7 := fun q => e7 (Int32.toInt_inj.mp (q.trans (by decide))); have n8 : a1.toInt ≠ 8 := fun q => e8 (Int32.toInt_inj.mp (q.trans (by decide))); omega) (by decide) ?_
  refine k_iconst (v := (-1 : Int32)) C (dk dX11_count_1 1 rfl) (by decide) ?_
  exact k_iret E (dk dX11_count_1 2 rfl) h
set_option maxRecDepth 100000 in
set_option maxHeartbeats 4000000 in
theorem qX11_keep (l : Launch) (g : G) (hg : gOK g) {a1 : Int32} {a2 : Int32} {a3 : Int32} {a4 : Int32}  {s0 σe : St} {v : Int32} (h : mX11_keep a1 a2 a3 a4 s0 = some (v, σe)) : Mc l g yX11_keep cX11_keep 5 (some .int) { frames := 1, cells := 0, slots := 0, locals := 25 } [.ref (g.2.2 45), .int a1, .int a2, .int a3, .int a4] s0 (some (.int v)) σe := by
  refine k_enter hg pnRX11 rfl (Nat.le_of_ble_eq_true rfl) ?_
  intro WK E
  have C := kX_y E
  unfold mX11_keep at h
  show WK 0 [(0, .ref (g.2.2 45)), (1, .int a1), (2, .int a2), (3, .int a3), (4, .int a4)] [] s0
  refine k_aload_n C (dk dX11_keep_0 0 rfl) rfl 0 rfl ?_
  refine k_iconst (v := (0 : Int32)) C (dk dX11_keep_0 1 rfl) (by decide) ?_
  refine k_putI (D := RX11) (T := TX11) (N := 39) (ci := 6) (k := 16) C iCX11 tyX11_ok nmX11 rfl (by decide) rfl (by decide) (iW3 _ (List.mem_of_getElem? (i := 20) rfl)) rfl rfl flq6_16 flp6_16 (dk dX11_keep_0 2 rfl) h (fun s1 h => ?_)
  refine k_iload_n C (dk dX11_keep_0 3 rfl) rfl 1 rfl ?_
  refine k_i2l C (dk dX11_keep_0 4 rfl) ?_
  refine k_lconst (v := (0 : Int64)) C (dk dX11_keep_0 5 rfl) (by decide) ?_
  refine k_ldc2 (v := (7 : Int64)) C (dk dX11_keep_0 6 rfl) (iW8 _ (List.mem_of_getElem? (i := 15) rfl)) ?_
  refine cl2_k h (fun x3 s2 hc h => ?_)
  refine k_cs (As := [.long a1.toInt64, .long (0 : Int64), .long (7 : Int64)]) (st := []) C (qX11_in l g hg hc) (iW8 _ (List.mem_of_getElem? (i := 16) rfl)) (iW8 _ (List.mem_of_getElem? (i := 17) rfl)) (iW0 _ (List.mem_of_getElem? (i := 5) rfl)) (iW8 _ (List.mem_of_getElem? (i := 18) rfl)) rfl rfl hdX11_in (by decide) rfl rfl (Nat.le_of_ble_eq_true rfl) (dk dX11_keep_0 7 rfl) ?_
  refine k_if_eq (tgt := 57) C (dk dX11_keep_0 8 rfl) (by decide) h (fun h => ?_) (fun h => ?_)
  ·
    refine k_iconst (v := (-1 : Int32)) C (dk dX11_keep_0 30 rfl) (by decide) ?_
    exact k_iret E (dk dX11_keep_0 31 rfl) h
  ·
    refine k_iload_n C (dk dX11_keep_0 9 rfl) rfl 2 rfl ?_
    refine k_i2l C (dk dX11_keep_0 10 rfl) ?_
    refine k_lconst (v := (0 : Int64)) C (dk dX11_keep_0 11 rfl) (by decide) ?_
    refine k_lconst (v := (1 : Int64)) C (dk dX11_keep_0 12 rfl) (by decide) ?_
    refine cl2_k h (fun x5 s4 hc h => ?_)
    refine k_cs (As := [.long a2.toInt64, .long (0 : Int64), .long (1 : Int64)]) (st := []) C (qX11_in l g hg hc) (iW8 _ (List.mem_of_getElem? (i := 16) rfl)) (iW8 _ (List.mem_of_getElem? (i := 17) rfl)) (iW0 _ (List.mem_of_getElem? (i := 5) rfl)) (iW8 _ (List.mem_of_getElem? (i := 18) rfl)) rfl rfl hdX11_in (by decide) rfl rfl (Nat.le_of_ble_eq_true rfl) (dk dX11_keep_0 13 rfl) ?_
    refine k_if_eq (tgt := 57) C (dk dX11_keep_0 14 rfl) (by decide) h (fun h => ?_) (fun h => ?_)
    ·
      refine k_iconst (v := (-1 : Int32)) C (dk dX11_keep_0 30 rfl) (by decide) ?_
      exact k_iret E (dk dX11_keep_0 31 rfl) h
    ·
      refine k_iload_n C (dk dX11_keep_0 15 rfl) rfl 2 rfl ?_
      refine k_iconst (v := (1 : Int32)) C (dk dX11_keep_0 16 rfl) (by decide) ?_
      refine kl_J (P := (fun J59 => ∀ (s6 : St), J59 s6 = some (v, σe) → WK 59 [(0, .ref (g.2.2 45)), (1, .int a1), (2, .int a2), (3, .int a3), (4, .int a4)] [] s6)) h (fun s6 h => ?_) (fun J59 hJ59 h => ?_)
      ·
        unfold mX11_keep_59 at h
        refine k_aload_n C (dk dX11_keep_1 0 rfl) rfl 0 rfl ?_
        refine k_getR (q := 48) (D := RX11) (T := TX11) (N := 39) (ci := 6) (k := 10) C iCX11 rfl (by decide) rfl (by decide) (iW3 _ (List.mem_of_getElem? (i := 1) rfl)) rfl (dk dX11_keep_1 1 rfl) ?_
        refine k_iload_n C (dk dX11_keep_1 2 rfl) rfl 1 rfl ?_
        refine k_iload_n C (dk dX11_keep_1 3 rfl) rfl 2 rfl ?_
        refine k_iast C rfl rfl (dk dX11_keep_1 4 rfl) h (fun s7 h => ?_)
        refine k_aload_n C (dk dX11_keep_1 5 rfl) rfl 0 rfl ?_
        refine k_getR (q := 49) (D := RX11) (T := TX11) (N := 39) (ci := 6) (k := 11) C iCX11 rfl (by decide) rfl (by decide) (iW3 _ (List.mem_of_getElem? (i := 2) rfl)) rfl (dk dX11_keep_1 6 rfl) ?_
        refine k_iload_n C (dk dX11_keep_1 7 rfl) rfl 1 rfl ?_
        refine k_iload_n C (dk dX11_keep_1 8 rfl) rfl 2 rfl ?_
        refine k_iconst (v := (1 : Int32)) C (dk dX11_keep_1 9 rfl) (by decide) ?_
        refine kl_J (P := (fun J81 => ∀ (y8 : Int32) (s9 : St), J81 y8 s9 = some (v, σe) → WK 81 [(0, .ref (g.2.2 45)), (1, .int a1), (2, .int a2), (4, .int a4)] [.int y8, .int a1, .ref (g.2.2 49)] s9)) h (fun y8 s9 h => ?_) (fun J81 hJ81 h => ?_)
        ·
          unfold mX11_keep_81 at h
          refine k_iast C rfl rfl (dk dX11_keep_1 14 rfl) h (fun s10 h => ?_)
          refine k_aload_n C (dk dX11_keep_1 15 rfl) rfl 0 rfl ?_
          refine k_getR (q := 50) (D := RX11) (T := TX11) (N := 39) (ci := 6) (k := 12) C iCX11 rfl (by decide) rfl (by decide) (iW3 _ (List.mem_of_getElem? (i := 3) rfl)) rfl (dk dX11_keep_1 16 rfl) ?_
          refine k_iload_n C (dk dX11_keep_1 17 rfl) rfl 1 rfl ?_
          refine k_iload_n C (dk dX11_keep_1 18 rfl) rfl 2 rfl ?_
          refine k_iconst (v := (1 : Int32)) C (dk dX11_keep_1 19 rfl) (by decide) ?_
          refine kl_J (P := (fun J98 => ∀ (y11 : Int32) (s12 : St), J98 y11 s12 = some (v, σe) → WK 98 [] [.int y11, .int a1, .ref (g.2.2 50)] s12)) h (fun y11 s12 h => ?_) (fun J98 hJ98 h => ?_)
          ·
            unfold mX11_keep_98 at h
            refine k_iast C rfl rfl (dk dX11_keep_1 24 rfl) h (fun s13 h => ?_)
            refine k_iconst (v := (0 : Int32)) C (dk dX11_keep_1 25 rfl) (by decide) ?_
            exact k_iret E (dk dX11_keep_1 26 rfl) h
          ·
            refine k_icmp_ne (tgt := 97) C (dk dX11_keep_1 20 rfl) (by decide) h (fun h => ?_) (fun h => ?_)
            ·
              refine k_iconst (v := (0 : Int32)) C (dk dX11_keep_1 23 rfl) (by decide) ?_
              refine k_sub C [] rfl ?_
              exact hJ98 _ _ h
            ·
              refine k_iload C (dk dX11_keep_1 21 rfl) 3 rfl ?_
              refine k_goto (tgt := 98) C (dk dX11_keep_1 22 rfl) (by decide) ?_
              refine k_sub C [] rfl ?_
              exact hJ98 _ _ h
        ·
          refine k_icmp_ne (tgt := 80) C (dk dX11_keep_1 10 rfl) (by decide) h (fun h => ?_) (fun h => ?_)
          ·
            refine k_iconst (v := (0 : Int32)) C (dk dX11_keep_1 13 rfl) (by decide) ?_
            refine k_sub C [0, 1, 2, 4] rfl ?_
            exact hJ81 _ _ h
          ·
            refine k_iload_n C (dk dX11_keep_1 11 rfl) rfl 3 rfl ?_
            refine k_goto (tgt := 81) C (dk dX11_keep_1 12 rfl) (by decide) ?_
            refine k_sub C [0, 1, 2, 4] rfl ?_
            exact hJ81 _ _ h
      ·
        refine k_icmp_ne (tgt := 59) C (dk dX11_keep_0 17 rfl) (by decide) h (fun h => ?_) (fun h => ?_)
        ·
          exact hJ59 _ h
        ·
          refine k_iload_n C (dk dX11_keep_0 18 rfl) rfl 3 rfl ?_
          refine k_i2l C (dk dX11_keep_0 19 rfl) ?_
          refine k_lconst (v := (0 : Int64)) C (dk dX11_keep_0 20 rfl) (by decide) ?_
          refine k_ldc2 (v := (7 : Int64)) C (dk dX11_keep_0 21 rfl) (iW8 _ (List.mem_of_getElem? (i := 15) rfl)) ?_
          refine cl2_k h (fun x15 s14 hc h => ?_)
          refine k_cs (As := [.long a3.toInt64, .long (0 : Int64), .long (7 : Int64)]) (st := []) C (qX11_in l g hg hc) (iW8 _ (List.mem_of_getElem? (i := 16) rfl)) (iW8 _ (List.mem_of_getElem? (i := 17) rfl)) (iW0 _ (List.mem_of_getElem? (i := 5) rfl)) (iW8 _ (List.mem_of_getElem? (i := 18) rfl)) rfl rfl hdX11_in (by decide) rfl rfl (Nat.le_of_ble_eq_true rfl) (dk dX11_keep_0 22 rfl) ?_
          refine k_if_eq (tgt := 57) C (dk dX11_keep_0 23 rfl) (by decide) h (fun h => ?_) (fun h => ?_)
          ·
            refine k_iconst (v := (-1 : Int32)) C (dk dX11_keep_0 30 rfl) (by decide) ?_
            exact k_iret E (dk dX11_keep_0 31 rfl) h
          ·
            refine k_iload C (dk dX11_keep_0 24 rfl) 4 rfl ?_
            refine k_i2l C (dk dX11_keep_0 25 rfl) ?_
            refine k_lconst (v := (0 : Int64)) C (dk dX11_keep_0 26 rfl) (by decide) ?_
            refine k_ldc2 (v := (9 : Int64)) C (dk dX11_keep_0 27 rfl) (iW31 _ (List.mem_of_getElem? (i := 7) rfl)) ?_
            refine cl2_k h (fun x17 s16 hc h => ?_)
            refine k_cs (As := [.long a4.toInt64, .long (0 : Int64), .long (9 : Int64)]) (st := []) C (qX11_in l g hg hc) (iW8 _ (List.mem_of_getElem? (i := 16) rfl)) (iW8 _ (List.mem_of_getElem? (i := 17) rfl)) (iW0 _ (List.mem_of_getElem? (i := 5) rfl)) (iW8 _ (List.mem_of_getElem? (i := 18) rfl)) rfl rfl hdX11_in (by decide) rfl rfl (Nat.le_of_ble_eq_true rfl) (dk dX11_keep_0 28 rfl) ?_
            refine k_if_ne (tgt := 59) C (dk dX11_keep_0 29 rfl) (by decide) h (fun h => ?_) (fun h => ?_)
            ·
              exact hJ59 _ h
            ·
              refine k_iconst (v := (-1 : Int32)) C (dk dX11_keep_0 30 rfl) (by decide) ?_
              exact k_iret E (dk dX11_keep_0 31 rfl) h
set_option maxRecDepth 100000 in
set_option maxHeartbeats 4000000 in
theorem qX11_narrowed (l : Launch) (g : G) (hg : gOK g) {a0 : Int32} {a1 : Int32}  {s0 σe : St} {v : Int64} (h : mX11_narrowed a0 a1 s0 = some (v, σe)) : Mc l g yX11_narrowed cX11_narrowed 2 (some .long) { frames := 0, cells := 0, slots := 0, locals := 0 } [.int a0, .int a1] s0 (some (.long v)) σe := by
  refine k_enter hg pnRX11 rfl (Nat.le_of_ble_eq_true rfl) ?_
  intro WK E
  have C := kX_y E
  unfold mX11_narrowed at h
  show WK 0 [(0, .int a0), (1, .int a1)] [] s0
  refine k_iload_n C (dk dX11_narrowed_0 0 rfl) rfl 1 rfl ?_
  refine k_if_ne (tgt := 10) C (dk dX11_narrowed_0 1 rfl) (by decide) h (fun h => ?_) (fun h => ?_)
  ·
    refine k_iload_n C (dk dX11_narrowed_0 6 rfl) rfl 0 rfl ?_
    refine k_i2l C (dk dX11_narrowed_0 7 rfl) ?_
    exact k_lret E (dk dX11_narrowed_0 8 rfl) h
  ·
    refine k_iload_n C (dk dX11_narrowed_0 2 rfl) rfl 0 rfl ?_
    refine k_i2b C (dk dX11_narrowed_0 3 rfl) ?_
    refine k_i2l C (dk dX11_narrowed_0 4 rfl) ?_
    refine k_goto (tgt := 12) C (dk dX11_narrowed_0 5 rfl) (by decide) ?_
    exact k_lret E (dk dX11_narrowed_0 8 rfl) h
set_option maxRecDepth 100000 in
set_option maxHeartbeats 4000000 in
theorem qX11_row (l : Launch) (g : G) (hg : gOK g) {a1 : Int32} {a2 : Int32} {a3 : Int32}  {s0 σe : St} {v : Int32} (h : mX11_row a1 a2 a3 s0 = some (v, σe)) : Mc l g yX11_row cX11_row 5 (some .int) { frames := 1, cells := 0, slots := 0, locals := 25 } [.ref (g.2.2 45), .int a1, .int a2, .int a3] s0 (some (.int v)) σe := by
  refine k_enter hg pnRX11 rfl (Nat.le_of_ble_eq_true rfl) ?_
  intro WK E
  have C := kX_y E
  unfold mX11_row at h
  show WK 0 [(0, .ref (g.2.2 45)), (1, .int a1), (2, .int a2), (3, .int a3)] [] s0
  refine k_aload_n C (dk dX11_row_0 0 rfl) rfl 0 rfl ?_
  refine k_iconst (v := (0 : Int32)) C (dk dX11_row_0 1 rfl) (by decide) ?_
  refine k_putI (D := RX11) (T := TX11) (N := 39) (ci := 6) (k := 16) C iCX11 tyX11_ok nmX11 rfl (by decide) rfl (by decide) (iW3 _ (List.mem_of_getElem? (i := 20) rfl)) rfl rfl flq6_16 flp6_16 (dk dX11_row_0 2 rfl) h (fun s1 h => ?_)
  refine k_iload_n C (dk dX11_row_0 3 rfl) rfl 1 rfl ?_
  refine k_i2l C (dk dX11_row_0 4 rfl) ?_
  refine k_lconst (v := (0 : Int64)) C (dk dX11_row_0 5 rfl) (by decide) ?_
  refine k_ldc2 (v := (7 : Int64)) C (dk dX11_row_0 6 rfl) (iW8 _ (List.mem_of_getElem? (i := 15) rfl)) ?_
  refine cl2_k h (fun x3 s2 hc h => ?_)
  refine k_cs (As := [.long a1.toInt64, .long (0 : Int64), .long (7 : Int64)]) (st := []) C (qX11_in l g hg hc) (iW8 _ (List.mem_of_getElem? (i := 16) rfl)) (iW8 _ (List.mem_of_getElem? (i := 17) rfl)) (iW0 _ (List.mem_of_getElem? (i := 5) rfl)) (iW8 _ (List.mem_of_getElem? (i := 18) rfl)) rfl rfl hdX11_in (by decide) rfl rfl (Nat.le_of_ble_eq_true rfl) (dk dX11_row_0 7 rfl) ?_
  refine k_if_eq (tgt := 35) C (dk dX11_row_0 8 rfl) (by decide) h (fun h => ?_) (fun h => ?_)
  ·
    refine k_iconst (v := (-1 : Int32)) C (dk dX11_row_0 18 rfl) (by decide) ?_
    exact k_iret E (dk dX11_row_0 19 rfl) h
  ·
    refine k_iload_n C (dk dX11_row_0 9 rfl) rfl 2 rfl ?_
    refine k_i2l C (dk dX11_row_0 10 rfl) ?_
    refine k_lconst (v := (0 : Int64)) C (dk dX11_row_0 11 rfl) (by decide) ?_
    refine k_ldc2 (v := (2 : Int64)) C (dk dX11_row_0 12 rfl) (iW13 _ (List.mem_of_getElem? (i := 12) rfl)) ?_
    refine cl2_k h (fun x5 s4 hc h => ?_)
    refine k_cs (As := [.long a2.toInt64, .long (0 : Int64), .long (2 : Int64)]) (st := []) C (qX11_in l g hg hc) (iW8 _ (List.mem_of_getElem? (i := 16) rfl)) (iW8 _ (List.mem_of_getElem? (i := 17) rfl)) (iW0 _ (List.mem_of_getElem? (i := 5) rfl)) (iW8 _ (List.mem_of_getElem? (i := 18) rfl)) rfl rfl hdX11_in (by decide) rfl rfl (Nat.le_of_ble_eq_true rfl) (dk dX11_row_0 13 rfl) ?_
    refine k_if_eq (tgt := 35) C (dk dX11_row_0 14 rfl) (by decide) h (fun h => ?_) (fun h => ?_)
    ·
      refine k_iconst (v := (-1 : Int32)) C (dk dX11_row_0 18 rfl) (by decide) ?_
      exact k_iret E (dk dX11_row_0 19 rfl) h
    ·
      refine k_iload_n C (dk dX11_row_0 15 rfl) rfl 3 rfl ?_
      refine k_bipush (v := (100 : Int32)) C (dk dX11_row_0 16 rfl) (by decide) ?_
      refine k_icmp_le (tgt := 37) C (dk dX11_row_0 17 rfl) (by decide) h (fun h => ?_) (fun h => ?_)
      ·
        refine k_iload_n C (dk dX11_row_0 20 rfl) rfl 3 rfl ?_
        refine k_if_ge (tgt := 44) C (dk dX11_row_0 21 rfl) (by decide) h (fun h => ?_) (fun h => ?_)
        ·
          refine k_aload_n C (dk dX11_row_0 24 rfl) rfl 0 rfl ?_
          refine k_getR (q := 48) (D := RX11) (T := TX11) (N := 39) (ci := 6) (k := 10) C iCX11 rfl (by decide) rfl (by decide) (iW3 _ (List.mem_of_getElem? (i := 1) rfl)) rfl (dk dX11_row_0 25 rfl) ?_
          refine k_iload_n C (dk dX11_row_0 26 rfl) rfl 1 rfl ?_
          refine k_iconst (v := (2 : Int32)) C (dk dX11_row_0 27 rfl) (by decide) ?_
          refine k_iast C rfl rfl (dk dX11_row_0 28 rfl) h (fun s6 h => ?_)
          refine k_aload_n C (dk dX11_row_0 29 rfl) rfl 0 rfl ?_
          refine k_getR (q := 51) (D := RX11) (T := TX11) (N := 39) (ci := 6) (k := 13) C iCX11 rfl (by decide) rfl (by decide) (iW3 _ (List.mem_of_getElem? (i := 4) rfl)) rfl (dk dX11_row_0 30 rfl) ?_
          refine k_iload_n C (dk dX11_row_0 31 rfl) rfl 1 rfl ?_
          refine k_iload_n C (dk dX11_row_1 0 rfl) rfl 2 rfl ?_
          refine k_iast C rfl rfl (dk dX11_row_1 1 rfl) h (fun s7 h => ?_)
          refine k_aload_n C (dk dX11_row_1 2 rfl) rfl 0 rfl ?_
          refine k_getR (q := 52) (D := RX11) (T := TX11) (N := 39) (ci := 6) (k := 14) C iCX11 rfl (by decide) rfl (by decide) (iW3 _ (List.mem_of_getElem? (i := 5) rfl)) rfl (dk dX11_row_1 3 rfl) ?_
          refine k_iload_n C (dk dX11_row_1 4 rfl) rfl 1 rfl ?_
          refine k_iload_n C (dk dX11_row_1 5 rfl) rfl 3 rfl ?_
          refine k_iast C rfl rfl (dk dX11_row_1 6 rfl) h (fun s8 h => ?_)
          refine k_iconst (v := (0 : Int32)) C (dk dX11_row_1 7 rfl) (by decide) ?_
          refine k_istore (lv' := [(4, .int (0 : Int32)), (0, .ref (g.2.2 45)), (1, .int a1), (2, .int a2), (3, .int a3)]) C (dk dX11_row_1 8 rfl) (by decide) rfl ?_
          refine kl_L (P := (fun J68 => ∀ (y9 : Int32) (s10 : St), J68 y9 s10 = some (v, σe) → WK 68 [(0, .ref (g.2.2 45)), (1, .int a1), (4, .int y9)] [] s10)) h (fun _ _ h => nomatch h) (fun J68 hJ68 y9 s10 h => ?_) (fun J68 hJ68 h => ?_)
          ·
            unfold mX11_row_68 at h
            refine k_iload C (dk dX11_row_1 9 rfl) 2 rfl ?_
            refine k_bipush (v := (100 : Int32)) C (dk dX11_row_1 10 rfl) (by decide) ?_
            refine k_icmp_ge (tgt := 94) C (dk dX11_row_1 11 rfl) (by decide) h (fun h => ?_) (fun h => ?_)
            ·
              refine k_iconst (v := (0 : Int32)) C (dk dX11_row_1 23 rfl) (by decide) ?_
              exact k_iret E (dk dX11_row_1 24 rfl) h
            ·
              refine k_aload_n C (dk dX11_row_1 12 rfl) rfl 0 rfl ?_
              refine k_getR (q := 53) (D := RX11) (T := TX11) (N := 39) (ci := 6) (k := 15) C iCX11 rfl (by decide) rfl (by decide) (iW3 _ (List.mem_of_getElem? (i := 6) rfl)) rfl (dk dX11_row_1 13 rfl) ?_
              refine k_bipush (v := (100 : Int32)) C (dk dX11_row_1 14 rfl) (by decide) ?_
              refine k_iload_n C (dk dX11_row_1 15 rfl) rfl 1 rfl ?_
              refine k_imul C (dk dX11_row_1 16 rfl) ?_
              refine k_iload C (dk dX11_row_1 17 rfl) 2 rfl ?_
              refine k_iadd C (dk dX11_row_1 18 rfl) ?_
              refine k_lconst (v := (0 : Int64)) C (dk dX11_row_1 19 rfl) (by decide) ?_
              refine k_last C rfl rfl (dk dX11_row_1 20 rfl) h (fun s11 h => ?_)
              refine k_iinc (lv' := [(4, .int (y9 + 1)), (0, .ref (g.2.2 45)), (1, .int a1)]) C (dk dX11_row_1 21 rfl) (j := 2) rfl rfl (by decide) rfl ?_
              refine k_goto (tgt := 68) C (dk dX11_row_1 22 rfl) (by decide) ?_
              refine k_sub C [1, 2, 0] rfl ?_
              exact hJ68 _ _ h
          ·
            refine k_sub C [1, 2, 0] rfl ?_
            exact hJ68 _ _ h
        ·
          refine k_bipush (v := (-14 : Int32)) C (dk dX11_row_0 22 rfl) (by decide) ?_
          exact k_iret E (dk dX11_row_0 23 rfl) h
      ·
        refine k_iconst (v := (-1 : Int32)) C (dk dX11_row_0 18 rfl) (by decide) ?_
        exact k_iret E (dk dX11_row_0 19 rfl) h
set_option maxRecDepth 100000 in
set_option maxHeartbeats 4000000 in
theorem qX11_put (l : Launch) (g : G) (hg : gOK g) {a1 : Int32} {a2 : Int32} {a3 : Int32}  {s0 σe : St} {v : Int32} (h : mX11_put a1 a2 a3 s0 = some (v, σe)) : Mc l g yX11_put cX11_put 5 (some .int) { frames := 2, cells := 0, slots := 0, locals := 46 } [.ref (g.2.2 45), .int a1, .int a2, .int a3] s0 (some (.int v)) σe := by
  refine k_enter hg pnRX11 rfl (Nat.le_of_ble_eq_true rfl) ?_
  intro WK E
  have C := kX_y E
  unfold mX11_put at h
  show WK 0 [(0, .ref (g.2.2 45)), (1, .int a1), (2, .int a2), (3, .int a3)] [] s0
  refine k_aload_n C (dk dX11_put_0 0 rfl) rfl 0 rfl ?_
  refine k_iconst (v := (0 : Int32)) C (dk dX11_put_0 1 rfl) (by decide) ?_
  refine k_putI (D := RX11) (T := TX11) (N := 39) (ci := 6) (k := 16) C iCX11 tyX11_ok nmX11 rfl (by decide) rfl (by decide) (iW3 _ (List.mem_of_getElem? (i := 20) rfl)) rfl rfl flq6_16 flp6_16 (dk dX11_put_0 2 rfl) h (fun s1 h => ?_)
  refine k_aload_n C (dk dX11_put_0 3 rfl) rfl 0 rfl ?_
  refine k_iload_n C (dk dX11_put_0 4 rfl) rfl 1 rfl ?_
  refine cl2_k h (fun x3 s2 hc h => ?_)
  refine k_cv (T := TX11) (N := 39) (ci := 6) (ob := 45) (As := [.int a1]) (st := []) C (qX11_wrongRow l g hg hc) (iW8 _ (List.mem_of_getElem? (i := 11) rfl)) (iW8 _ (List.mem_of_getElem? (i := 12) rfl)) (iW8 _ (List.mem_of_getElem? (i := 13) rfl)) (iW0 _ (List.mem_of_getElem? (i := 5) rfl)) (iW8 _ (List.mem_of_getElem? (i := 14) rfl)) rfl rfl hdX11_wrongRow (by decide) rfl (by decide) rfl rfl rfl (Nat.le_of_ble_eq_true rfl) (dk dX11_put_0 5 rfl) ?_
  refine k_istore (lv' := [(4, .int x3), (0, .ref (g.2.2 45)), (1, .int a1), (2, .int a2), (3, .int a3)]) C (dk dX11_put_0 6 rfl) (by decide) rfl ?_
  refine k_iload C (dk dX11_put_0 7 rfl) 0 rfl ?_
  refine k_if_ge (tgt := 20) C (dk dX11_put_0 8 rfl) (by decide) h (fun h => ?_) (fun h => ?_)
  ·
    refine k_iload_n C (dk dX11_put_0 11 rfl) rfl 3 rfl ?_
    refine k_i2l C (dk dX11_put_0 12 rfl) ?_
    refine k_lconst (v := (0 : Int64)) C (dk dX11_put_0 13 rfl) (by decide) ?_
    refine k_aload_n C (dk dX11_put_0 14 rfl) rfl 1 rfl ?_
    refine k_getR (q := 52) (D := RX11) (T := TX11) (N := 39) (ci := 6) (k := 14) C iCX11 rfl (by decide) rfl (by decide) (iW3 _ (List.mem_of_getElem? (i := 5) rfl)) rfl (dk dX11_put_0 15 rfl) ?_
    refine k_iload_n C (dk dX11_put_0 16 rfl) rfl 2 rfl ?_
    refine k_iald C rfl rfl (dk dX11_put_0 17 rfl) h (fun x4 h => ?_)
    refine k_iconst (v := (1 : Int32)) C (dk dX11_put_0 18 rfl) (by decide) ?_
    refine k_isub C (dk dX11_put_0 19 rfl) ?_
    refine k_i2l C (dk dX11_put_0 20 rfl) ?_
    refine cl2_k h (fun x6 s5 hc h => ?_)
    refine k_cs (As := [.long a2.toInt64, .long (0 : Int64), .long (x4 - (1 : Int32)).toInt64]) (st := []) C (qX11_in l g hg hc) (iW8 _ (List.mem_of_getElem? (i := 16) rfl)) (iW8 _ (List.mem_of_getElem? (i := 17) rfl)) (iW0 _ (List.mem_of_getElem? (i := 5) rfl)) (iW8 _ (List.mem_of_getElem? (i := 18) rfl)) rfl rfl hdX11_in (by decide) rfl rfl (Nat.le_of_ble_eq_true rfl) (dk dX11_put_0 21 rfl) ?_
    refine k_if_ne (tgt := 41) C (dk dX11_put_0 22 rfl) (by decide) h (fun h => ?_) (fun h => ?_)
    ·
      refine k_aload_n C (dk dX11_put_0 25 rfl) rfl 1 rfl ?_
      refine k_getR (q := 53) (D := RX11) (T := TX11) (N := 39) (ci := 6) (k := 15) C iCX11 rfl (by decide) rfl (by decide) (iW3 _ (List.mem_of_getElem? (i := 6) rfl)) rfl (dk dX11_put_0 26 rfl) ?_
      refine k_bipush (v := (100 : Int32)) C (dk dX11_put_0 27 rfl) (by decide) ?_
      refine k_iload_n C (dk dX11_put_0 28 rfl) rfl 2 rfl ?_
      refine k_imul C (dk dX11_put_0 29 rfl) ?_
      refine k_iload_n C (dk dX11_put_0 30 rfl) rfl 3 rfl ?_
      refine k_iadd C (dk dX11_put_0 31 rfl) ?_
      refine k_iload_n C (dk dX11_put_1 0 rfl) rfl 4 rfl ?_
      refine k_aload_n C (dk dX11_put_1 1 rfl) rfl 1 rfl ?_
      refine k_getR (q := 51) (D := RX11) (T := TX11) (N := 39) (ci := 6) (k := 13) C iCX11 rfl (by decide) rfl (by decide) (iW3 _ (List.mem_of_getElem? (i := 4) rfl)) rfl (dk dX11_put_1 2 rfl) ?_
      refine k_iload_n C (dk dX11_put_1 3 rfl) rfl 2 rfl ?_
      refine k_iald C rfl rfl (dk dX11_put_1 4 rfl) h (fun x7 h => ?_)
      refine cl2_k h (fun x9 s8 hc h => ?_)
      refine k_cs (As := [.int a3, .int x7]) (st := [.int (((100 : Int32) * a1) + a2), .ref (g.2.2 53)]) C (qX11_narrowed l g hg hc) (iW36 _ (List.mem_of_getElem? (i := 20) rfl)) (iW36 _ (List.mem_of_getElem? (i := 21) rfl)) (iW0 _ (List.mem_of_getElem? (i := 5) rfl)) (iW36 _ (List.mem_of_getElem? (i := 22) rfl)) rfl rfl hdX11_narrowed (by decide) rfl rfl (Nat.le_of_ble_eq_true rfl) (dk dX11_put_1 5 rfl) ?_
      refine k_last C rfl rfl (dk dX11_put_1 6 rfl) h (fun s10 h => ?_)
      refine k_iconst (v := (0 : Int32)) C (dk dX11_put_1 7 rfl) (by decide) ?_
      exact k_iret E (dk dX11_put_1 8 rfl) h
    ·
      refine k_bipush (v := (-13 : Int32)) C (dk dX11_put_0 23 rfl) (by decide) ?_
      exact k_iret E (dk dX11_put_0 24 rfl) h
  ·
    refine k_iload C (dk dX11_put_0 9 rfl) 0 rfl ?_
    exact k_iret E (dk dX11_put_0 10 rfl) h
set_option maxRecDepth 100000 in
set_option maxHeartbeats 4000000 in
theorem qX11_element (l : Launch) (g : G) (hg : gOK g) {a1 : Int32} {a2 : Int32}  {s0 σe : St} {v : Int64} (h : mX11_element a1 a2 s0 = some (v, σe)) : Mc l g yX11_element cX11_element 4 (some .long) { frames := 2, cells := 0, slots := 0, locals := 46 } [.ref (g.2.2 45), .int a1, .int a2] s0 (some (.long v)) σe := by
  refine k_enter hg pnRX11 rfl (Nat.le_of_ble_eq_true rfl) ?_
  intro WK E
  have C := kX_y E
  unfold mX11_element at h
  show WK 0 [(0, .ref (g.2.2 45)), (1, .int a1), (2, .int a2)] [] s0
  refine k_aload_n C (dk dX11_element_0 0 rfl) rfl 0 rfl ?_
  refine k_iload_n C (dk dX11_element_0 1 rfl) rfl 1 rfl ?_
  refine cl2_k h (fun x2 s1 hc h => ?_)
  refine k_cv (T := TX11) (N := 39) (ci := 6) (ob := 45) (As := [.int a1]) (st := []) C (qX11_wrongRow l g hg hc) (iW8 _ (List.mem_of_getElem? (i := 11) rfl)) (iW8 _ (List.mem_of_getElem? (i := 12) rfl)) (iW8 _ (List.mem_of_getElem? (i := 13) rfl)) (iW0 _ (List.mem_of_getElem? (i := 5) rfl)) (iW8 _ (List.mem_of_getElem? (i := 14) rfl)) rfl rfl hdX11_wrongRow (by decide) rfl (by decide) rfl rfl rfl (Nat.le_of_ble_eq_true rfl) (dk dX11_element_0 2 rfl) ?_
  refine k_istore_n (lv' := [(3, .int x2), (0, .ref (g.2.2 45)), (1, .int a1), (2, .int a2)]) C (dk dX11_element_0 3 rfl) rfl (by decide) rfl ?_
  refine k_aload_n C (dk dX11_element_0 4 rfl) rfl 1 rfl ?_
  refine k_iload_n C (dk dX11_element_0 5 rfl) rfl 0 rfl ?_
  refine k_iconst (v := (-1 : Int32)) C (dk dX11_element_0 6 rfl) (by decide) ?_
  refine kl_J (P := (fun J43 => ∀ (y3 : Int32) (s4 : St), J43 y3 s4 = some (v, σe) → WK 43 [(0, .ref (g.2.2 45)), (1, .int a1), (2, .int a2)] [.int y3, .ref (g.2.2 45)] s4)) h (fun y3 s4 h => ?_) (fun J43 hJ43 h => ?_)
  ·
    unfold mX11_element_43 at h
    refine k_putI (D := RX11) (T := TX11) (N := 39) (ci := 6) (k := 16) C iCX11 tyX11_ok nmX11 rfl (by decide) rfl (by decide) (iW3 _ (List.mem_of_getElem? (i := 20) rfl)) rfl rfl flq6_16 flp6_16 (dk dX11_element_0 27 rfl) h (fun s5 h => ?_)
    refine k_aload_n C (dk dX11_element_0 28 rfl) rfl 0 rfl ?_
    refine k_getI (D := RX11) (T := TX11) (N := 39) (ci := 6) (k := 16) C iCX11 rfl (by decide) rfl (by decide) (iW3 _ (List.mem_of_getElem? (i := 20) rfl)) rfl (dk dX11_element_0 29 rfl) h (fun x6 h => ?_)
    refine k_if_le (tgt := 57) C (dk dX11_element_0 30 rfl) (by decide) h (fun h => ?_) (fun h => ?_)
    ·
      refine k_aload_n C (dk dX11_element_1 1 rfl) rfl 0 rfl ?_
      refine k_getR (q := 53) (D := RX11) (T := TX11) (N := 39) (ci := 6) (k := 15) C iCX11 rfl (by decide) rfl (by decide) (iW3 _ (List.mem_of_getElem? (i := 6) rfl)) rfl (dk dX11_element_1 2 rfl) ?_
      refine k_bipush (v := (100 : Int32)) C (dk dX11_element_1 3 rfl) (by decide) ?_
      refine k_iload_n C (dk dX11_element_1 4 rfl) rfl 1 rfl ?_
      refine k_imul C (dk dX11_element_1 5 rfl) ?_
      refine k_iload_n C (dk dX11_element_1 6 rfl) rfl 2 rfl ?_
      refine k_iadd C (dk dX11_element_1 7 rfl) ?_
      refine k_lald C rfl rfl (dk dX11_element_1 8 rfl) h (fun x7 h => ?_)
      exact k_lret E (dk dX11_element_1 9 rfl) h
    ·
      refine k_lconst (v := (0 : Int64)) C (dk dX11_element_0 31 rfl) (by decide) ?_
      refine k_goto (tgt := 68) C (dk dX11_element_1 0 rfl) (by decide) ?_
      exact k_lret E (dk dX11_element_1 9 rfl) h
  ·
    refine k_icmp_ne (tgt := 16) C (dk dX11_element_0 7 rfl) (by decide) h (fun h => ?_) (fun h => ?_)
    ·
      refine k_iload_n C (dk dX11_element_0 10 rfl) rfl 0 rfl ?_
      refine kl_J (P := (fun J38 => ∀ (s8 : St), J38 s8 = some (v, σe) → WK 38 [(0, .ref (g.2.2 45)), (1, .int a1), (2, .int a2)] [.ref (g.2.2 45)] s8)) h (fun s8 h => ?_) (fun J38 hJ38 h => ?_)
      ·
        unfold mX11_element_38 at h
        refine k_iconst (v := (2 : Int32)) C (dk dX11_element_0 24 rfl) (by decide) ?_
        refine k_goto (tgt := 43) C (dk dX11_element_0 25 rfl) (by decide) ?_
        exact hJ43 _ _ h
      ·
        refine k_if_lt (tgt := 38) C (dk dX11_element_0 11 rfl) (by decide) h (fun h => ?_) (fun h => ?_)
        ·
          refine k_sub C [1, 2, 3] rfl ?_
          exact hJ38 _ h
        ·
          refine k_iload_n C (dk dX11_element_0 12 rfl) rfl 3 rfl ?_
          refine k_i2l C (dk dX11_element_0 13 rfl) ?_
          refine k_lconst (v := (0 : Int64)) C (dk dX11_element_0 14 rfl) (by decide) ?_
          refine k_aload_n C (dk dX11_element_0 15 rfl) rfl 1 rfl ?_
          refine k_getR (q := 52) (D := RX11) (T := TX11) (N := 39) (ci := 6) (k := 14) C iCX11 rfl (by decide) rfl (by decide) (iW3 _ (List.mem_of_getElem? (i := 5) rfl)) rfl (dk dX11_element_0 16 rfl) ?_
          refine k_iload_n C (dk dX11_element_0 17 rfl) rfl 2 rfl ?_
          refine k_iald C rfl rfl (dk dX11_element_0 18 rfl) h (fun x9 h => ?_)
          refine k_iconst (v := (1 : Int32)) C (dk dX11_element_0 19 rfl) (by decide) ?_
          refine k_isub C (dk dX11_element_0 20 rfl) ?_
          refine k_i2l C (dk dX11_element_0 21 rfl) ?_
          refine cl2_k h (fun x11 s10 hc h => ?_)
          refine k_cs (As := [.long a2.toInt64, .long (0 : Int64), .long (x9 - (1 : Int32)).toInt64]) (st := [.ref (g.2.2 45)]) C (qX11_in l g hg hc) (iW8 _ (List.mem_of_getElem? (i := 16) rfl)) (iW8 _ (List.mem_of_getElem? (i := 17) rfl)) (iW0 _ (List.mem_of_getElem? (i := 5) rfl)) (iW8 _ (List.mem_of_getElem? (i := 18) rfl)) rfl rfl hdX11_in (by decide) rfl rfl (Nat.le_of_ble_eq_true rfl) (dk dX11_element_0 22 rfl) ?_
          refine k_if_ne (tgt := 42) C (dk dX11_element_0 23 rfl) (by decide) h (fun h => ?_) (fun h => ?_)
          ·
            refine k_iconst (v := (0 : Int32)) C (dk dX11_element_0 26 rfl) (by decide) ?_
            refine k_sub C [1, 2, 3] rfl ?_
            exact hJ43 _ _ h
          ·
            refine k_sub C [1, 2, 3] rfl ?_
            exact hJ38 _ h
    ·
      refine k_iconst (v := (1 : Int32)) C (dk dX11_element_0 8 rfl) (by decide) ?_
      refine k_goto (tgt := 43) C (dk dX11_element_0 9 rfl) (by decide) ?_
      refine k_sub C [1, 2, 3] rfl ?_
      exact hJ43 _ _ h
set_option maxRecDepth 100000 in
set_option maxHeartbeats 4000000 in
theorem qX11_copy (l : Launch) (g : G) (hg : gOK g) {a1 : Int32} {a2 : Int32} {a3 : Int32} {a4 : Int32} {a5 : Int32}  {s0 σe : St} {v : Int32} (h : mX11_copy a1 a2 a3 a4 a5 s0 = some (v, σe)) : Mc l g yX11_copy cX11_copy 7 (some .int) { frames := 1, cells := 0, slots := 0, locals := 25 } [.ref (g.2.2 45), .int a1, .int a2, .int a3, .int a4, .int a5] s0 (some (.int v)) σe := by
  refine k_enter hg pnRX11 rfl (Nat.le_of_ble_eq_true rfl) ?_
  intro WK E
  have C := kX_y E
  unfold mX11_copy at h
  show WK 0 [(0, .ref (g.2.2 45)), (1, .int a1), (2, .int a2), (3, .int a3), (4, .int a4), (5, .int a5)] [] s0
  refine k_aload_n C (dk dX11_copy_0 0 rfl) rfl 0 rfl ?_
  refine k_iconst (v := (0 : Int32)) C (dk dX11_copy_0 1 rfl) (by decide) ?_
  refine k_putI (D := RX11) (T := TX11) (N := 39) (ci := 6) (k := 16) C iCX11 tyX11_ok nmX11 rfl (by decide) rfl (by decide) (iW3 _ (List.mem_of_getElem? (i := 20) rfl)) rfl rfl flq6_16 flp6_16 (dk dX11_copy_0 2 rfl) h (fun s1 h => ?_)
  refine k_iload_n C (dk dX11_copy_0 3 rfl) rfl 1 rfl ?_
  refine k_i2l C (dk dX11_copy_0 4 rfl) ?_
  refine k_lconst (v := (0 : Int64)) C (dk dX11_copy_0 5 rfl) (by decide) ?_
  refine k_ldc2 (v := (7 : Int64)) C (dk dX11_copy_0 6 rfl) (iW8 _ (List.mem_of_getElem? (i := 15) rfl)) ?_
  refine cl2_k h (fun x3 s2 hc h => ?_)
  refine k_cs (As := [.long a1.toInt64, .long (0 : Int64), .long (7 : Int64)]) (st := []) C (qX11_in l g hg hc) (iW8 _ (List.mem_of_getElem? (i := 16) rfl)) (iW8 _ (List.mem_of_getElem? (i := 17) rfl)) (iW0 _ (List.mem_of_getElem? (i := 5) rfl)) (iW8 _ (List.mem_of_getElem? (i := 18) rfl)) rfl rfl hdX11_in (by decide) rfl rfl (Nat.le_of_ble_eq_true rfl) (dk dX11_copy_0 7 rfl) ?_
  refine k_if_eq (tgt := 29) C (dk dX11_copy_0 8 rfl) (by decide) h (fun h => ?_) (fun h => ?_)
  ·
    refine k_iconst (v := (-1 : Int32)) C (dk dX11_copy_0 15 rfl) (by decide) ?_
    exact k_iret E (dk dX11_copy_0 16 rfl) h
  ·
    refine k_iload_n C (dk dX11_copy_0 9 rfl) rfl 3 rfl ?_
    refine k_i2l C (dk dX11_copy_0 10 rfl) ?_
    refine k_lconst (v := (0 : Int64)) C (dk dX11_copy_0 11 rfl) (by decide) ?_
    refine k_ldc2 (v := (7 : Int64)) C (dk dX11_copy_0 12 rfl) (iW8 _ (List.mem_of_getElem? (i := 15) rfl)) ?_
    refine cl2_k h (fun x5 s4 hc h => ?_)
    refine k_cs (As := [.long a3.toInt64, .long (0 : Int64), .long (7 : Int64)]) (st := []) C (qX11_in l g hg hc) (iW8 _ (List.mem_of_getElem? (i := 16) rfl)) (iW8 _ (List.mem_of_getElem? (i := 17) rfl)) (iW0 _ (List.mem_of_getElem? (i := 5) rfl)) (iW8 _ (List.mem_of_getElem? (i := 18) rfl)) rfl rfl hdX11_in (by decide) rfl rfl (Nat.le_of_ble_eq_true rfl) (dk dX11_copy_0 13 rfl) ?_
    refine k_if_ne (tgt := 31) C (dk dX11_copy_0 14 rfl) (by decide) h (fun h => ?_) (fun h => ?_)
    ·
      refine k_aload_n C (dk dX11_copy_0 17 rfl) rfl 0 rfl ?_
      refine k_getR (q := 48) (D := RX11) (T := TX11) (N := 39) (ci := 6) (k := 10) C iCX11 rfl (by decide) rfl (by decide) (iW3 _ (List.mem_of_getElem? (i := 1) rfl)) rfl (dk dX11_copy_0 18 rfl) ?_
      refine k_iload_n C (dk dX11_copy_0 19 rfl) rfl 1 rfl ?_
      refine k_iald C rfl rfl (dk dX11_copy_0 20 rfl) h (fun x6 h => ?_)
      refine k_if_eq (tgt := 49) C (dk dX11_copy_0 21 rfl) (by decide) h (fun h => ?_) (fun h => ?_)
      ·
        refine k_bipush (v := (-11 : Int32)) C (dk dX11_copy_0 27 rfl) (by decide) ?_
        exact k_iret E (dk dX11_copy_0 28 rfl) h
      ·
        refine k_aload_n C (dk dX11_copy_0 22 rfl) rfl 0 rfl ?_
        refine k_getR (q := 48) (D := RX11) (T := TX11) (N := 39) (ci := 6) (k := 10) C iCX11 rfl (by decide) rfl (by decide) (iW3 _ (List.mem_of_getElem? (i := 1) rfl)) rfl (dk dX11_copy_0 23 rfl) ?_
        refine k_iload_n C (dk dX11_copy_0 24 rfl) rfl 3 rfl ?_
        refine k_iald C rfl rfl (dk dX11_copy_0 25 rfl) h (fun x7 h => ?_)
        refine k_if_ne (tgt := 52) C (dk dX11_copy_0 26 rfl) (by decide) h (fun h => ?_) (fun h => ?_)
        ·
          refine k_aload_n C (dk dX11_copy_0 29 rfl) rfl 0 rfl ?_
          refine k_getR (q := 48) (D := RX11) (T := TX11) (N := 39) (ci := 6) (k := 10) C iCX11 rfl (by decide) rfl (by decide) (iW3 _ (List.mem_of_getElem? (i := 1) rfl)) rfl (dk dX11_copy_0 30 rfl) ?_
          refine k_iload_n C (dk dX11_copy_0 31 rfl) rfl 1 rfl ?_
          refine k_iald C rfl rfl (dk dX11_copy_1 0 rfl) h (fun x8 h => ?_)
          refine k_iconst (v := (2 : Int32)) C (dk dX11_copy_1 1 rfl) (by decide) ?_
          refine k_icmp_ne (tgt := 87) C (dk dX11_copy_1 2 rfl) (by decide) h (fun h => ?_) (fun h => ?_)
          ·
            refine k_bipush (v := (-12 : Int32)) C (dk dX11_copy_1 18 rfl) (by decide) ?_
            exact k_iret E (dk dX11_copy_1 19 rfl) h
          ·
            refine k_aload_n C (dk dX11_copy_1 3 rfl) rfl 0 rfl ?_
            refine k_getR (q := 48) (D := RX11) (T := TX11) (N := 39) (ci := 6) (k := 10) C iCX11 rfl (by decide) rfl (by decide) (iW3 _ (List.mem_of_getElem? (i := 1) rfl)) rfl (dk dX11_copy_1 4 rfl) ?_
            refine k_iload_n C (dk dX11_copy_1 5 rfl) rfl 3 rfl ?_
            refine k_iald C rfl rfl (dk dX11_copy_1 6 rfl) h (fun x9 h => ?_)
            refine k_iconst (v := (2 : Int32)) C (dk dX11_copy_1 7 rfl) (by decide) ?_
            refine k_icmp_ne (tgt := 87) C (dk dX11_copy_1 8 rfl) (by decide) h (fun h => ?_) (fun h => ?_)
            ·
              refine k_bipush (v := (-12 : Int32)) C (dk dX11_copy_1 18 rfl) (by decide) ?_
              exact k_iret E (dk dX11_copy_1 19 rfl) h
            ·
              refine k_aload_n C (dk dX11_copy_1 9 rfl) rfl 0 rfl ?_
              refine k_getR (q := 51) (D := RX11) (T := TX11) (N := 39) (ci := 6) (k := 13) C iCX11 rfl (by decide) rfl (by decide) (iW3 _ (List.mem_of_getElem? (i := 4) rfl)) rfl (dk dX11_copy_1 10 rfl) ?_
              refine k_iload_n C (dk dX11_copy_1 11 rfl) rfl 1 rfl ?_
              refine k_iald C rfl rfl (dk dX11_copy_1 12 rfl) h (fun x10 h => ?_)
              refine k_aload_n C (dk dX11_copy_1 13 rfl) rfl 0 rfl ?_
              refine k_getR (q := 51) (D := RX11) (T := TX11) (N := 39) (ci := 6) (k := 13) C iCX11 rfl (by decide) rfl (by decide) (iW3 _ (List.mem_of_getElem? (i := 4) rfl)) rfl (dk dX11_copy_1 14 rfl) ?_
              refine k_iload_n C (dk dX11_copy_1 15 rfl) rfl 3 rfl ?_
              refine k_iald C rfl rfl (dk dX11_copy_1 16 rfl) h (fun x11 h => ?_)
              refine k_icmp_eq (tgt := 90) C (dk dX11_copy_1 17 rfl) (by decide) h (fun h => ?_) (fun h => ?_)
              ·
                refine k_iload C (dk dX11_copy_1 20 rfl) 5 rfl ?_
                refine k_if_lt (tgt := 131) C (dk dX11_copy_1 21 rfl) (by decide) h (fun h => ?_) (fun h => ?_)
                ·
                  refine k_bipush (v := (-13 : Int32)) C (dk dX11_copy_2 10 rfl) (by decide) ?_
                  exact k_iret E (dk dX11_copy_2 11 rfl) h
                ·
                  refine k_iload_n C (dk dX11_copy_1 22 rfl) rfl 2 rfl ?_
                  refine k_if_lt (tgt := 131) C (dk dX11_copy_1 23 rfl) (by decide) h (fun h => ?_) (fun h => ?_)
                  ·
                    refine k_bipush (v := (-13 : Int32)) C (dk dX11_copy_2 10 rfl) (by decide) ?_
                    exact k_iret E (dk dX11_copy_2 11 rfl) h
                  ·
                    refine k_iload C (dk dX11_copy_1 24 rfl) 4 rfl ?_
                    refine k_if_lt (tgt := 131) C (dk dX11_copy_1 25 rfl) (by decide) h (fun h => ?_) (fun h => ?_)
                    ·
                      refine k_bipush (v := (-13 : Int32)) C (dk dX11_copy_2 10 rfl) (by decide) ?_
                      exact k_iret E (dk dX11_copy_2 11 rfl) h
                    ·
                      refine k_iload_n C (dk dX11_copy_1 26 rfl) rfl 2 rfl ?_
                      refine k_aload_n C (dk dX11_copy_1 27 rfl) rfl 0 rfl ?_
                      refine k_getR (q := 52) (D := RX11) (T := TX11) (N := 39) (ci := 6) (k := 14) C iCX11 rfl (by decide) rfl (by decide) (iW3 _ (List.mem_of_getElem? (i := 5) rfl)) rfl (dk dX11_copy_1 28 rfl) ?_
                      refine k_iload_n C (dk dX11_copy_1 29 rfl) rfl 1 rfl ?_
                      refine k_iald C rfl rfl (dk dX11_copy_1 30 rfl) h (fun x12 h => ?_)
                      refine k_iload C (dk dX11_copy_1 31 rfl) 5 rfl ?_
                      refine k_isub C (dk dX11_copy_2 0 rfl) ?_
                      refine k_icmp_gt (tgt := 131) C (dk dX11_copy_2 1 rfl) (by decide) h (fun h => ?_) (fun h => ?_)
                      ·
                        refine k_bipush (v := (-13 : Int32)) C (dk dX11_copy_2 10 rfl) (by decide) ?_
                        exact k_iret E (dk dX11_copy_2 11 rfl) h
                      ·
                        refine k_iload C (dk dX11_copy_2 2 rfl) 4 rfl ?_
                        refine k_aload_n C (dk dX11_copy_2 3 rfl) rfl 0 rfl ?_
                        refine k_getR (q := 52) (D := RX11) (T := TX11) (N := 39) (ci := 6) (k := 14) C iCX11 rfl (by decide) rfl (by decide) (iW3 _ (List.mem_of_getElem? (i := 5) rfl)) rfl (dk dX11_copy_2 4 rfl) ?_
                        refine k_iload_n C (dk dX11_copy_2 5 rfl) rfl 3 rfl ?_
                        refine k_iald C rfl rfl (dk dX11_copy_2 6 rfl) h (fun x13 h => ?_)
                        refine k_iload C (dk dX11_copy_2 7 rfl) 5 rfl ?_
                        refine k_isub C (dk dX11_copy_2 8 rfl) ?_
                        refine k_icmp_le (tgt := 134) C (dk dX11_copy_2 9 rfl) (by decide) h (fun h => ?_) (fun h => ?_)
                        ·
                          refine k_iconst (v := (0 : Int32)) C (dk dX11_copy_2 12 rfl) (by decide) ?_
                          refine k_istore (lv' := [(6, .int (0 : Int32)), (0, .ref (g.2.2 45)), (1, .int a1), (2, .int a2), (3, .int a3), (4, .int a4), (5, .int a5)]) C (dk dX11_copy_2 13 rfl) (by decide) rfl ?_
                          refine kl_L (P := (fun J137 => ∀ (y14 : Int32) (s15 : St), J137 y14 s15 = some (v, σe) → WK 137 [(0, .ref (g.2.2 45)), (1, .int a1), (2, .int a2), (3, .int a3), (4, .int a4), (5, .int a5), (6, .int y14)] [] s15)) h (fun _ _ h => nomatch h) (fun J137 hJ137 y14 s15 h => ?_) (fun J137 hJ137 h => ?_)
                          ·
                            unfold mX11_copy_137 at h
                            refine k_iload C (dk dX11_copy_2 14 rfl) 6 rfl ?_
                            refine k_iload C (dk dX11_copy_2 15 rfl) 5 rfl ?_
                            refine k_icmp_ge (tgt := 171) C (dk dX11_copy_2 16 rfl) (by decide) h (fun h => ?_) (fun h => ?_)
                            ·
                              refine k_iconst (v := (0 : Int32)) C (dk dX11_copy_3 1 rfl) (by decide) ?_
                              refine k_istore (lv' := [(6, .int (0 : Int32)), (0, .ref (g.2.2 45)), (1, .int a1), (2, .int a2), (3, .int a3), (4, .int a4), (5, .int a5)]) C (dk dX11_copy_3 2 rfl) (by decide) rfl ?_
                              refine kl_L (P := (fun J174 => ∀ (y16 : Int32) (s17 : St), J174 y16 s17 = some (v, σe) → WK 174 [(0, .ref (g.2.2 45)), (3, .int a3), (4, .int a4), (5, .int a5), (6, .int y16)] [] s17)) h (fun _ _ h => nomatch h) (fun J174 hJ174 y16 s17 h => ?_) (fun J174 hJ174 h => ?_)
                              ·
                                unfold mX11_copy_174 at h
                                refine k_iload C (dk dX11_copy_3 3 rfl) 4 rfl ?_
                                refine k_iload C (dk dX11_copy_3 4 rfl) 3 rfl ?_
                                refine k_icmp_ge (tgt := 209) C (dk dX11_copy_3 5 rfl) (by decide) h (fun h => ?_) (fun h => ?_)
                                ·
                                  refine k_iload C (dk dX11_copy_3 22 rfl) 3 rfl ?_
                                  exact k_iret E (dk dX11_copy_3 23 rfl) h
                                ·
                                  refine k_aload_n C (dk dX11_copy_3 6 rfl) rfl 0 rfl ?_
                                  refine k_getR (q := 53) (D := RX11) (T := TX11) (N := 39) (ci := 6) (k := 15) C iCX11 rfl (by decide) rfl (by decide) (iW3 _ (List.mem_of_getElem? (i := 6) rfl)) rfl (dk dX11_copy_3 7 rfl) ?_
                                  refine k_bipush (v := (100 : Int32)) C (dk dX11_copy_3 8 rfl) (by decide) ?_
                                  refine k_iload_n C (dk dX11_copy_3 9 rfl) rfl 1 rfl ?_
                                  refine k_imul C (dk dX11_copy_3 10 rfl) ?_
                                  refine k_iload C (dk dX11_copy_3 11 rfl) 2 rfl ?_
                                  refine k_iadd C (dk dX11_copy_3 12 rfl) ?_
                                  refine k_iload C (dk dX11_copy_3 13 rfl) 4 rfl ?_
                                  refine k_iadd C (dk dX11_copy_3 14 rfl) ?_
                                  refine k_aload_n C (dk dX11_copy_3 15 rfl) rfl 0 rfl ?_
                                  refine k_getR (q := 65) (D := RX11) (T := TX11) (N := 39) (ci := 6) (k := 38) C iCX11 rfl (by decide) rfl (by decide) (iW3 _ (List.mem_of_getElem? (i := 19) rfl)) rfl (dk dX11_copy_3 16 rfl) ?_
                                  refine k_iload C (dk dX11_copy_3 17 rfl) 4 rfl ?_
                                  refine k_lald C rfl rfl (dk dX11_copy_3 18 rfl) h (fun x18 h => ?_)
                                  refine k_last C rfl rfl (dk dX11_copy_3 19 rfl) h (fun s19 h => ?_)
                                  refine k_iinc (lv' := [(6, .int (y16 + 1)), (0, .ref (g.2.2 45)), (3, .int a3), (4, .int a4), (5, .int a5)]) C (dk dX11_copy_3 20 rfl) (j := 4) rfl rfl (by decide) rfl ?_
                                  refine k_goto (tgt := 174) C (dk dX11_copy_3 21 rfl) (by decide) ?_
                                  refine k_sub C [1, 2, 3, 4, 0] rfl ?_
                                  exact hJ174 _ _ h
                              ·
                                refine k_sub C [1, 4, 5, 6, 0] rfl ?_
                                exact hJ174 _ _ h
                            ·
                              refine k_aload_n C (dk dX11_copy_2 17 rfl) rfl 0 rfl ?_
                              refine k_getR (q := 65) (D := RX11) (T := TX11) (N := 39) (ci := 6) (k := 38) C iCX11 rfl (by decide) rfl (by decide) (iW3 _ (List.mem_of_getElem? (i := 19) rfl)) rfl (dk dX11_copy_2 18 rfl) ?_
                              refine k_iload C (dk dX11_copy_2 19 rfl) 6 rfl ?_
                              refine k_aload_n C (dk dX11_copy_2 20 rfl) rfl 0 rfl ?_
                              refine k_getR (q := 53) (D := RX11) (T := TX11) (N := 39) (ci := 6) (k := 15) C iCX11 rfl (by decide) rfl (by decide) (iW3 _ (List.mem_of_getElem? (i := 6) rfl)) rfl (dk dX11_copy_2 21 rfl) ?_
                              refine k_bipush (v := (100 : Int32)) C (dk dX11_copy_2 22 rfl) (by decide) ?_
                              refine k_iload_n C (dk dX11_copy_2 23 rfl) rfl 1 rfl ?_
                              refine k_imul C (dk dX11_copy_2 24 rfl) ?_
                              refine k_iload_n C (dk dX11_copy_2 25 rfl) rfl 2 rfl ?_
                              refine k_iadd C (dk dX11_copy_2 26 rfl) ?_
                              refine k_iload C (dk dX11_copy_2 27 rfl) 6 rfl ?_
                              refine k_iadd C (dk dX11_copy_2 28 rfl) ?_
                              refine k_lald C rfl rfl (dk dX11_copy_2 29 rfl) h (fun x20 h => ?_)
                              refine k_last C rfl rfl (dk dX11_copy_2 30 rfl) h (fun s21 h => ?_)
                              refine k_iinc (lv' := [(6, .int (y14 + 1)), (0, .ref (g.2.2 45)), (1, .int a1), (2, .int a2), (3, .int a3), (4, .int a4), (5, .int a5)]) C (dk dX11_copy_2 31 rfl) (j := 6) rfl rfl (by decide) rfl ?_
                              refine k_goto (tgt := 137) C (dk dX11_copy_3 0 rfl) (by decide) ?_
                              refine k_sub C [1, 2, 3, 4, 5, 6, 0] rfl ?_
                              exact hJ137 _ _ h
                          ·
                            refine k_sub C [1, 2, 3, 4, 5, 6, 0] rfl ?_
                            exact hJ137 _ _ h
                        ·
                          refine k_bipush (v := (-13 : Int32)) C (dk dX11_copy_2 10 rfl) (by decide) ?_
                          exact k_iret E (dk dX11_copy_2 11 rfl) h
              ·
                refine k_bipush (v := (-12 : Int32)) C (dk dX11_copy_1 18 rfl) (by decide) ?_
                exact k_iret E (dk dX11_copy_1 19 rfl) h
        ·
          refine k_bipush (v := (-11 : Int32)) C (dk dX11_copy_0 27 rfl) (by decide) ?_
          exact k_iret E (dk dX11_copy_0 28 rfl) h
    ·
      refine k_iconst (v := (-1 : Int32)) C (dk dX11_copy_0 15 rfl) (by decide) ?_
      exact k_iret E (dk dX11_copy_0 16 rfl) h
set_option maxRecDepth 100000 in
set_option maxHeartbeats 4000000 in
theorem qX11_costOf (l : Launch) (g : G) (hg : gOK g) {a0 : Int32} {a1 : Int32}  {s0 σe : St} {v : Int32} (h : mX11_costOf a0 a1 s0 = some (v, σe)) : Mc l g yX11_costOf cX11_costOf 2 (some .int) { frames := 0, cells := 0, slots := 0, locals := 0 } [.int a0, .int a1] s0 (some (.int v)) σe := by
  refine k_enter hg pnRX11 rfl (Nat.le_of_ble_eq_true rfl) ?_
  intro WK E
  have C := kX_y E
  unfold mX11_costOf at h
  show WK 0 [(0, .int a0), (1, .int a1)] [] s0
  refine k_iload_n C (dk dX11_costOf_0 0 rfl) rfl 0 rfl ?_
  by_cases e0 : a0 = (0 : Int32)
  · replace h := (if_pos e0).symm.trans h
    refine k_tsIn (q := (0 : Int32)) (tgt := 44) C (dk dX11_costOf_0 1 rfl) (by decide) (by decide) rfl (by decide) e0 ?_
    refine k_iconst (v := (3 : Int32)) C (dk dX11_costOf_0 2 rfl) (by decide) ?_
    exact k_iret E (dk dX11_costOf_0 3 rfl) h
  replace h := (if_neg e0).symm.trans h
  by_cases e1 : a0 = (1 : Int32)
  · replace h := (if_pos e1).symm.trans h
    refine k_tsIn (q := (1 : Int32)) (tgt := 46) C (dk dX11_costOf_0 1 rfl) (by decide) (by decide) rfl (by decide) e1 ?_
    refine k_iconst (v := (1 : Int32)) C (dk dX11_costOf_0 4 rfl) (by decide) ?_
    exact k_iret E (dk dX11_costOf_0 5 rfl) h
  replace h := (if_neg e1).symm.trans h
  by_cases e2 : a0 = (2 : Int32)
  · replace h := (if_pos e2).symm.trans h
    refine k_tsIn (q := (2 : Int32)) (tgt := 48) C (dk dX11_costOf_0 1 rfl) (by decide) (by decide) rfl (by decide) e2 ?_
    refine k_iconst (v := (4 : Int32)) C (dk dX11_costOf_0 6 rfl) (by decide) ?_
    exact k_iret E (dk dX11_costOf_0 7 rfl) h
  replace h := (if_neg e2).symm.trans h
  by_cases e3 : a0 = (3 : Int32)
  · replace h := (if_pos e3).symm.trans h
    refine k_tsIn (q := (3 : Int32)) (tgt := 50) C (dk dX11_costOf_0 1 rfl) (by decide) (by decide) rfl (by decide) e3 ?_
    refine k_bipush (v := (8 : Int32)) C (dk dX11_costOf_0 8 rfl) (by decide) ?_
    exact k_iret E (dk dX11_costOf_0 9 rfl) h
  replace h := (if_neg e3).symm.trans h
  by_cases e4 : a0 = (4 : Int32)
  · replace h := (if_pos e4).symm.trans h
    refine k_tsIn (q := (4 : Int32)) (tgt := 53) C (dk dX11_costOf_0 1 rfl) (by decide) (by decide) rfl (by decide) e4 ?_
    refine k_iload_n C (dk dX11_costOf_0 10 rfl) rfl 1 rfl ?_
    refine k_bipush (v := (7 : Int32)) C (dk dX11_costOf_0 11 rfl) (by decide) ?_
    refine k_icmp_le (tgt := 63) C (dk dX11_costOf_0 12 rfl) (by decide) h (fun h => ?_) (fun h => ?_)
    ·
      refine k_bipush (v := (8 : Int32)) C (dk dX11_costOf_0 15 rfl) (by decide) ?_
      refine k_iload_n C (dk dX11_costOf_0 16 rfl) rfl 1 rfl ?_
      refine k_isub C (dk dX11_costOf_0 17 rfl) ?_
      exact k_iret E (dk dX11_costOf_0 18 rfl) h
    ·
      refine k_iconst (v := (1 : Int32)) C (dk dX11_costOf_0 13 rfl) (by decide) ?_
      refine k_goto (tgt := 67) C (dk dX11_costOf_0 14 rfl) (by decide) ?_
      exact k_iret E (dk dX11_costOf_0 18 rfl) h
  replace h := (if_neg e4).symm.trans h
  by_cases e5 : a0 = (5 : Int32)
  · replace h := (if_pos e5).symm.trans h
    refine k_tsIn (q := (5 : Int32)) (tgt := 68) C (dk dX11_costOf_0 1 rfl) (by decide) (by decide) rfl (by decide) e5 ?_
    refine k_bipush (v := (9 : Int32)) C (dk dX11_costOf_0 19 rfl) (by decide) ?_
    exact k_iret E (dk dX11_costOf_0 20 rfl) h
  replace h := (if_neg e5).symm.trans h
  by_cases e6 : a0 = (6 : Int32)
  · replace h := (if_pos e6).symm.trans h
    refine k_tsIn (q := (6 : Int32)) (tgt := 71) C (dk dX11_costOf_0 1 rfl) (by decide) (by decide) rfl (by decide) e6 ?_
    refine k_bipush (v := (9 : Int32)) C (dk dX11_costOf_0 21 rfl) (by decide) ?_
    refine k_iload_n C (dk dX11_costOf_0 22 rfl) rfl 1 rfl ?_
    refine k_iadd C (dk dX11_costOf_0 23 rfl) ?_
    exact k_iret E (dk dX11_costOf_0 24 rfl) h
  replace h := (if_neg e6).symm.trans h
  refine k_tsOut (tgt := 76) C (dk dX11_costOf_0 1 rfl) (by have n0 : a0.toInt ≠ 0 := fun q => e0 (Int32.toInt_inj.mp (q.trans (by decide))); have n1 : a0.toInt ≠ 1 := fun q => e1 (Int32.toInt_inj.mp (q.trans (by decide))); have n2 : a0.toInt ≠ 2 := fun q => e2 (Int32.toInt_inj.mp (q.trans (by decide))); have n3 : a0.toInt ≠ 3 := fun q => e3 (Int32.toInt_inj.mp (q.trans (by decide))); have n4 : a0.toInt ≠ 4 := fun q => e4 (Int32.toInt_inj.mp (q.trans (by decide))); have n5 : a0.toInt ≠ 5 := fun q => e5 (Int32.toInt_inj.mp (q.trans (by decide))); have n6 : a0.toInt ≠ 6 := fun q => e6 (Int32.toInt_inj.mp (q.trans (by decide))); omega) (by decide) ?_
  refine k_iconst (v := (3 : Int32)) C (dk dX11_costOf_0 25 rfl) (by decide) ?_
  refine k_iload_n C (dk dX11_costOf_0 26 rfl) rfl 1 rfl ?_
  refine k_iadd C (dk dX11_costOf_0 27 rfl) ?_
  exact k_iret E (dk dX11_costOf_0 28 rfl) h
set_option maxRecDepth 100000 in
set_option maxHeartbeats 4000000 in
theorem qX11_cost (l : Launch) (g : G) (hg : gOK g) {a1 : Int32}  {s0 σe : St} {v : Int32} (h : mX11_cost a1 s0 = some (v, σe)) : Mc l g yX11_cost cX11_cost 2 (some .int) { frames := 2, cells := 0, slots := 0, locals := 46 } [.ref (g.2.2 45), .int a1] s0 (some (.int v)) σe := by
  refine k_enter hg pnRX11 rfl (Nat.le_of_ble_eq_true rfl) ?_
  intro WK E
  have C := kX_y E
  unfold mX11_cost at h
  show WK 0 [(0, .ref (g.2.2 45)), (1, .int a1)] [] s0
  refine k_aload_n C (dk dX11_cost_0 0 rfl) rfl 0 rfl ?_
  refine k_iconst (v := (0 : Int32)) C (dk dX11_cost_0 1 rfl) (by decide) ?_
  refine k_putI (D := RX11) (T := TX11) (N := 39) (ci := 6) (k := 16) C iCX11 tyX11_ok nmX11 rfl (by decide) rfl (by decide) (iW3 _ (List.mem_of_getElem? (i := 20) rfl)) rfl rfl flq6_16 flp6_16 (dk dX11_cost_0 2 rfl) h (fun s1 h => ?_)
  refine k_aload_n C (dk dX11_cost_0 3 rfl) rfl 0 rfl ?_
  refine k_iload_n C (dk dX11_cost_0 4 rfl) rfl 1 rfl ?_
  refine cl2_k h (fun x3 s2 hc h => ?_)
  refine k_cv (T := TX11) (N := 39) (ci := 6) (ob := 45) (As := [.int a1]) (st := []) C (qX11_wrongKept l g hg hc) (iW12 _ (List.mem_of_getElem? (i := 14) rfl)) (iW12 _ (List.mem_of_getElem? (i := 15) rfl)) (iW12 _ (List.mem_of_getElem? (i := 16) rfl)) (iW0 _ (List.mem_of_getElem? (i := 5) rfl)) (iW12 _ (List.mem_of_getElem? (i := 17) rfl)) rfl rfl hdX11_wrongKept (by decide) rfl (by decide) rfl rfl rfl (Nat.le_of_ble_eq_true rfl) (dk dX11_cost_0 5 rfl) ?_
  refine k_if_ge (tgt := 21) C (dk dX11_cost_0 6 rfl) (by decide) h (fun h => ?_) (fun h => ?_)
  ·
    refine k_aload_n C (dk dX11_cost_0 11 rfl) rfl 0 rfl ?_
    refine k_getR (q := 49) (D := RX11) (T := TX11) (N := 39) (ci := 6) (k := 11) C iCX11 rfl (by decide) rfl (by decide) (iW3 _ (List.mem_of_getElem? (i := 2) rfl)) rfl (dk dX11_cost_0 12 rfl) ?_
    refine k_iload_n C (dk dX11_cost_0 13 rfl) rfl 1 rfl ?_
    refine k_iald C rfl rfl (dk dX11_cost_0 14 rfl) h (fun x4 h => ?_)
    refine k_aload_n C (dk dX11_cost_0 15 rfl) rfl 0 rfl ?_
    refine k_getR (q := 50) (D := RX11) (T := TX11) (N := 39) (ci := 6) (k := 12) C iCX11 rfl (by decide) rfl (by decide) (iW3 _ (List.mem_of_getElem? (i := 3) rfl)) rfl (dk dX11_cost_0 16 rfl) ?_
    refine k_iload_n C (dk dX11_cost_0 17 rfl) rfl 1 rfl ?_
    refine k_iald C rfl rfl (dk dX11_cost_0 18 rfl) h (fun x5 h => ?_)
    refine cl2_k h (fun x7 s6 hc h => ?_)
    refine k_cs (As := [.int x4, .int x5]) (st := []) C (qX11_costOf l g hg hc) (iW38 _ (List.mem_of_getElem? (i := 15) rfl)) (iW38 _ (List.mem_of_getElem? (i := 16) rfl)) (iW0 _ (List.mem_of_getElem? (i := 5) rfl)) (iW38 _ (List.mem_of_getElem? (i := 17) rfl)) rfl rfl hdX11_costOf (by decide) rfl rfl (Nat.le_of_ble_eq_true rfl) (dk dX11_cost_0 19 rfl) ?_
    exact k_iret E (dk dX11_cost_0 20 rfl) h
  ·
    refine k_aload_n C (dk dX11_cost_0 7 rfl) rfl 0 rfl ?_
    refine k_iload_n C (dk dX11_cost_0 8 rfl) rfl 1 rfl ?_
    refine cl2_k h (fun x9 s8 hc h => ?_)
    refine k_cv (T := TX11) (N := 39) (ci := 6) (ob := 45) (As := [.int a1]) (st := []) C (qX11_wrongKept l g hg hc) (iW12 _ (List.mem_of_getElem? (i := 14) rfl)) (iW12 _ (List.mem_of_getElem? (i := 15) rfl)) (iW12 _ (List.mem_of_getElem? (i := 16) rfl)) (iW0 _ (List.mem_of_getElem? (i := 5) rfl)) (iW12 _ (List.mem_of_getElem? (i := 17) rfl)) rfl rfl hdX11_wrongKept (by decide) rfl (by decide) rfl rfl rfl (Nat.le_of_ble_eq_true rfl) (dk dX11_cost_0 9 rfl) ?_
    refine k_goto (tgt := 36) C (dk dX11_cost_0 10 rfl) (by decide) ?_
    exact k_iret E (dk dX11_cost_0 20 rfl) h
set_option maxRecDepth 100000 in
set_option maxHeartbeats 4000000 in
theorem qX11_toss (l : Launch) (g : G) (hg : gOK g) {a1 : Int32}  {s0 σe : St} {v : Int32} (h : mX11_toss a1 s0 = some (v, σe)) : Mc l g yX11_toss cX11_toss 4 (some .int) { frames := 2, cells := 0, slots := 0, locals := 46 } [.ref (g.2.2 45), .int a1] s0 (some (.int v)) σe := by
  refine k_enter hg pnRX11 rfl (Nat.le_of_ble_eq_true rfl) ?_
  intro WK E
  have C := kX_y E
  unfold mX11_toss at h
  show WK 0 [(0, .ref (g.2.2 45)), (1, .int a1)] [] s0
  refine k_aload_n C (dk dX11_toss_0 0 rfl) rfl 0 rfl ?_
  refine k_iconst (v := (0 : Int32)) C (dk dX11_toss_0 1 rfl) (by decide) ?_
  refine k_putI (D := RX11) (T := TX11) (N := 39) (ci := 6) (k := 16) C iCX11 tyX11_ok nmX11 rfl (by decide) rfl (by decide) (iW3 _ (List.mem_of_getElem? (i := 20) rfl)) rfl rfl flq6_16 flp6_16 (dk dX11_toss_0 2 rfl) h (fun s1 h => ?_)
  refine k_aload_n C (dk dX11_toss_0 3 rfl) rfl 0 rfl ?_
  refine k_iload_n C (dk dX11_toss_0 4 rfl) rfl 1 rfl ?_
  refine cl2_k h (fun x3 s2 hc h => ?_)
  refine k_cv (T := TX11) (N := 39) (ci := 6) (ob := 45) (As := [.int a1]) (st := []) C (qX11_wrongKept l g hg hc) (iW12 _ (List.mem_of_getElem? (i := 14) rfl)) (iW12 _ (List.mem_of_getElem? (i := 15) rfl)) (iW12 _ (List.mem_of_getElem? (i := 16) rfl)) (iW0 _ (List.mem_of_getElem? (i := 5) rfl)) (iW12 _ (List.mem_of_getElem? (i := 17) rfl)) rfl rfl hdX11_wrongKept (by decide) rfl (by decide) rfl rfl rfl (Nat.le_of_ble_eq_true rfl) (dk dX11_toss_0 5 rfl) ?_
  refine k_if_ge (tgt := 19) C (dk dX11_toss_0 6 rfl) (by decide) h (fun h => ?_) (fun h => ?_)
  ·
    refine k_aload_n C (dk dX11_toss_0 11 rfl) rfl 0 rfl ?_
    refine k_getR (q := 49) (D := RX11) (T := TX11) (N := 39) (ci := 6) (k := 11) C iCX11 rfl (by decide) rfl (by decide) (iW3 _ (List.mem_of_getElem? (i := 2) rfl)) rfl (dk dX11_toss_0 12 rfl) ?_
    refine k_iload_n C (dk dX11_toss_0 13 rfl) rfl 1 rfl ?_
    refine k_iald C rfl rfl (dk dX11_toss_0 14 rfl) h (fun x4 h => ?_)
    refine k_istore_n (lv' := [(2, .int x4), (0, .ref (g.2.2 45)), (1, .int a1)]) C (dk dX11_toss_0 15 rfl) rfl (by decide) rfl ?_
    refine k_aload_n C (dk dX11_toss_0 16 rfl) rfl 1 rfl ?_
    refine k_getR (q := 50) (D := RX11) (T := TX11) (N := 39) (ci := 6) (k := 12) C iCX11 rfl (by decide) rfl (by decide) (iW3 _ (List.mem_of_getElem? (i := 3) rfl)) rfl (dk dX11_toss_0 17 rfl) ?_
    refine k_iload_n C (dk dX11_toss_0 18 rfl) rfl 2 rfl ?_
    refine k_iald C rfl rfl (dk dX11_toss_0 19 rfl) h (fun x5 h => ?_)
    refine k_istore_n (lv' := [(3, .int x5), (2, .int x4), (0, .ref (g.2.2 45)), (1, .int a1)]) C (dk dX11_toss_0 20 rfl) rfl (by decide) rfl ?_
    refine k_iload_n C (dk dX11_toss_0 21 rfl) rfl 1 rfl ?_
    refine k_iconst (v := (1 : Int32)) C (dk dX11_toss_0 22 rfl) (by decide) ?_
    refine k_icmp_eq (tgt := 42) C (dk dX11_toss_0 23 rfl) (by decide) h (fun h => ?_) (fun h => ?_)
    ·
      refine k_bipush (v := (-15 : Int32)) C (dk dX11_toss_0 26 rfl) (by decide) ?_
      exact k_iret E (dk dX11_toss_0 27 rfl) h
    ·
      refine k_iload_n C (dk dX11_toss_0 24 rfl) rfl 0 rfl ?_
      refine k_if_ne (tgt := 45) C (dk dX11_toss_0 25 rfl) (by decide) h (fun h => ?_) (fun h => ?_)
      ·
        refine k_iload_n C (dk dX11_toss_0 28 rfl) rfl 1 rfl ?_
        refine k_iconst (v := (2 : Int32)) C (dk dX11_toss_0 29 rfl) (by decide) ?_
        refine kl_J (P := (fun J55 => ∀ (s6 : St), J55 s6 = some (v, σe) → WK 55 [(3, .int x5)] [] s6)) h (fun s6 h => ?_) (fun J55 hJ55 h => ?_)
        ·
          unfold mX11_toss_55 at h
          refine k_bipush (v := (100 : Int32)) C (dk dX11_toss_1 2 rfl) (by decide) ?_
          refine k_iload_n C (dk dX11_toss_1 3 rfl) rfl 0 rfl ?_
          refine k_iadd C (dk dX11_toss_1 4 rfl) ?_
          refine k_goto (tgt := 80) C (dk dX11_toss_1 5 rfl) (by decide) ?_
          exact k_iret E (dk dX11_toss_1 16 rfl) h
        ·
          refine k_icmp_eq (tgt := 55) C (dk dX11_toss_0 30 rfl) (by decide) h (fun h => ?_) (fun h => ?_)
          ·
            refine k_sub C [0] rfl ?_
            exact hJ55 _ h
          ·
            refine k_iload_n C (dk dX11_toss_0 31 rfl) rfl 1 rfl ?_
            refine k_iconst (v := (3 : Int32)) C (dk dX11_toss_1 0 rfl) (by decide) ?_
            refine k_icmp_ne (tgt := 62) C (dk dX11_toss_1 1 rfl) (by decide) h (fun h => ?_) (fun h => ?_)
            ·
              refine k_iload_n C (dk dX11_toss_1 6 rfl) rfl 1 rfl ?_
              refine k_iconst (v := (4 : Int32)) C (dk dX11_toss_1 7 rfl) (by decide) ?_
              refine k_icmp_ne (tgt := 79) C (dk dX11_toss_1 8 rfl) (by decide) h (fun h => ?_) (fun h => ?_)
              ·
                refine k_iload_n C (dk dX11_toss_1 15 rfl) rfl 0 rfl ?_
                exact k_iret E (dk dX11_toss_1 16 rfl) h
              ·
                refine k_sipush (v := (200 : Int32)) C (dk dX11_toss_1 9 rfl) (by decide) ?_
                refine k_iload_n C (dk dX11_toss_1 10 rfl) rfl 1 rfl ?_
                refine k_iload_n C (dk dX11_toss_1 11 rfl) rfl 0 rfl ?_
                refine cl2_k h (fun x8 s7 hc h => ?_)
                refine k_cs (As := [.int x4, .int x5]) (st := [.int (200 : Int32)]) C (qX11_costOf l g hg hc) (iW38 _ (List.mem_of_getElem? (i := 15) rfl)) (iW38 _ (List.mem_of_getElem? (i := 16) rfl)) (iW0 _ (List.mem_of_getElem? (i := 5) rfl)) (iW38 _ (List.mem_of_getElem? (i := 17) rfl)) rfl rfl hdX11_costOf (by decide) rfl rfl (Nat.le_of_ble_eq_true rfl) (dk dX11_toss_1 12 rfl) ?_
                refine k_iadd C (dk dX11_toss_1 13 rfl) ?_
                refine k_goto (tgt := 80) C (dk dX11_toss_1 14 rfl) (by decide) ?_
                exact k_iret E (dk dX11_toss_1 16 rfl) h
            ·
              refine k_sub C [0] rfl ?_
              exact hJ55 _ h
      ·
        refine k_bipush (v := (-15 : Int32)) C (dk dX11_toss_0 26 rfl) (by decide) ?_
        exact k_iret E (dk dX11_toss_0 27 rfl) h
  ·
    refine k_aload_n C (dk dX11_toss_0 7 rfl) rfl 0 rfl ?_
    refine k_iload_n C (dk dX11_toss_0 8 rfl) rfl 1 rfl ?_
    refine cl2_k h (fun x10 s9 hc h => ?_)
    refine k_cv (T := TX11) (N := 39) (ci := 6) (ob := 45) (As := [.int a1]) (st := []) C (qX11_wrongKept l g hg hc) (iW12 _ (List.mem_of_getElem? (i := 14) rfl)) (iW12 _ (List.mem_of_getElem? (i := 15) rfl)) (iW12 _ (List.mem_of_getElem? (i := 16) rfl)) (iW0 _ (List.mem_of_getElem? (i := 5) rfl)) (iW12 _ (List.mem_of_getElem? (i := 17) rfl)) rfl rfl hdX11_wrongKept (by decide) rfl (by decide) rfl rfl rfl (Nat.le_of_ble_eq_true rfl) (dk dX11_toss_0 9 rfl) ?_
    exact k_iret E (dk dX11_toss_0 10 rfl) h
