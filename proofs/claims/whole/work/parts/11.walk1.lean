set_option maxRecDepth 100000 in
set_option maxHeartbeats 4000000 in
theorem qX0_pairOnWay (l : Launch) (g : G) (hg : gOK g) {a1 : Int32} {a2 : Int32} {a3 : Int32}  {s0 σe : St} {v : Int32} (h : mX0_pairOnWay a1 a2 a3 s0 = some (v, σe)) : Mc l g yX0_pairOnWay cX0_pairOnWay 6 (some .int) { frames := 3, cells := 0, slots := 0, locals := 72 } [.ref (g.2.2 28), .int a1, .int a2, .int a3] s0 (some (.int v)) σe := by
  refine k_enter hg pnRX0 rfl (Nat.le_of_ble_eq_true rfl) ?_
  intro WK E
  have C := kX_y E
  unfold mX0_pairOnWay at h
  show WK 0 [(0, .ref (g.2.2 28)), (1, .int a1), (2, .int a2), (3, .int a3)] [] s0
  refine k_bipush (v := (100 : Int32)) C (dk dX0_pairOnWay_0 0 rfl) (by decide) ?_
  refine k_iload_n C (dk dX0_pairOnWay_0 1 rfl) rfl 1 rfl ?_
  refine k_imul C (dk dX0_pairOnWay_0 2 rfl) ?_
  refine k_iload_n C (dk dX0_pairOnWay_0 3 rfl) rfl 2 rfl ?_
  refine k_iadd C (dk dX0_pairOnWay_0 4 rfl) ?_
  refine nmI h (fun x1 h => ?_)
  refine k_istore (lv' := [(4, .int x1), (0, .ref (g.2.2 28)), (1, .int a1), (2, .int a2), (3, .int a3)]) C (dk dX0_pairOnWay_0 5 rfl) (by decide) rfl ?_
  refine k_iconst (v := (0 : Int32)) C (dk dX0_pairOnWay_0 6 rfl) (by decide) ?_
  refine k_istore (lv' := [(5, .int (0 : Int32)), (4, .int x1), (0, .ref (g.2.2 28)), (1, .int a1), (2, .int a2), (3, .int a3)]) C (dk dX0_pairOnWay_0 7 rfl) (by decide) rfl ?_
  refine kl_L (P := (fun J11 => ∀ (y2 : Int32) (y3 : Int32) (s4 : St), J11 y2 y3 s4 = some (v, σe) → WK 11 [(0, .ref (g.2.2 28)), (3, .int a3), (4, .int y2), (5, .int y3)] [] s4)) h (fun _ _ _ h => nomatch h) (fun J11 hJ11 y2 y3 s4 h => ?_) (fun J11 hJ11 h => ?_)
  ·
    unfold mX0_pairOnWay_11 at h
    refine k_iload C (dk dX0_pairOnWay_0 8 rfl) 3 rfl ?_
    refine k_iload_n C (dk dX0_pairOnWay_0 9 rfl) rfl 1 rfl ?_
    refine kl_J (P := (fun J47 => ∀ (s5 : St), J47 s5 = some (v, σe) → WK 47 [(4, .int y2)] [] s5)) h (fun s5 h => ?_) (fun J47 hJ47 h => ?_)
    ·
      unfold mX0_pairOnWay_47 at h
      refine k_iload C (dk dX0_pairOnWay_0 25 rfl) 0 rfl ?_
      exact k_iret E (dk dX0_pairOnWay_0 26 rfl) h
    ·
      refine k_icmp_ge (tgt := 47) C (dk dX0_pairOnWay_0 10 rfl) (by decide) h (fun h => ?_) (fun h => ?_)
      ·
        refine k_sub C [2] rfl ?_
        exact hJ47 _ h
      ·
        refine k_iload C (dk dX0_pairOnWay_0 11 rfl) 3 rfl ?_
        refine k_sipush (v := (1296 : Int32)) C (dk dX0_pairOnWay_0 12 rfl) (by decide) ?_
        refine k_icmp_ge (tgt := 47) C (dk dX0_pairOnWay_0 13 rfl) (by decide) h (fun h => ?_) (fun h => ?_)
        ·
          refine k_sub C [2] rfl ?_
          exact hJ47 _ h
        ·
          refine k_aload_n C (dk dX0_pairOnWay_0 14 rfl) rfl 0 rfl ?_
          refine k_iload C (dk dX0_pairOnWay_0 15 rfl) 2 rfl ?_
          refine k_bipush (v := (100 : Int32)) C (dk dX0_pairOnWay_0 16 rfl) (by decide) ?_
          refine k_idiv C (dk dX0_pairOnWay_0 17 rfl) (by decide) ?_
          refine k_iload C (dk dX0_pairOnWay_0 18 rfl) 2 rfl ?_
          refine k_bipush (v := (100 : Int32)) C (dk dX0_pairOnWay_0 19 rfl) (by decide) ?_
          refine k_irem C (dk dX0_pairOnWay_0 20 rfl) (by decide) ?_
          refine cl2_k h (fun x7 s6 hc h => ?_)
          refine k_cv (T := TX0) (N := 9) (ci := 0) (ob := 28) (As := [.int (y2 / (100 : Int32)), .int (y2 - y2 / (100 : Int32) * (100 : Int32))]) (st := []) C (qX0_nextPair l g hg hc) (iW21 _ (List.mem_of_getElem? (i := 26) rfl)) (iW21 _ (List.mem_of_getElem? (i := 27) rfl)) (iW21 _ (List.mem_of_getElem? (i := 28) rfl)) (iW0 _ (List.mem_of_getElem? (i := 21) rfl)) (iW21 _ (List.mem_of_getElem? (i := 29) rfl)) rfl rfl hdX0_nextPair (by decide) rfl (by decide) rfl rfl rfl (Nat.le_of_ble_eq_true rfl) (dk dX0_pairOnWay_0 21 rfl) ?_
          refine k_istore (lv' := [(4, .int x7), (0, .ref (g.2.2 28)), (3, .int a3), (5, .int y3)]) C (dk dX0_pairOnWay_0 22 rfl) (by decide) rfl ?_
          refine k_iinc (lv' := [(5, .int (y3 + 1)), (4, .int x7), (0, .ref (g.2.2 28)), (3, .int a3)]) C (dk dX0_pairOnWay_0 23 rfl) (j := 3) rfl rfl (by decide) rfl ?_
          refine k_goto (tgt := 11) C (dk dX0_pairOnWay_0 24 rfl) (by decide) ?_
          refine k_sub C [2, 3, 1, 0] rfl ?_
          exact hJ11 _ _ _ h
  ·
    refine k_sub C [2, 5, 1, 0] rfl ?_
    exact hJ11 _ _ _ h
set_option maxRecDepth 100000 in
set_option maxHeartbeats 4000000 in
theorem qX0_pairsWithin (l : Launch) (g : G) (hg : gOK g) {a1 : Int32} {a2 : Int32} {a3 : Int32}  {s0 σe : St} {v : Int32} (h : mX0_pairsWithin a1 a2 a3 s0 = some (v, σe)) : Mc l g yX0_pairsWithin cX0_pairsWithin 5 (some .int) { frames := 4, cells := 0, slots := 0, locals := 90 } [.ref (g.2.2 28), .int a1, .int a2, .int a3] s0 (some (.int v)) σe := by
  refine k_enter hg pnRX0 rfl (Nat.le_of_ble_eq_true rfl) ?_
  intro WK E
  have C := kX_y E
  unfold mX0_pairsWithin at h
  show WK 0 [(0, .ref (g.2.2 28)), (1, .int a1), (2, .int a2), (3, .int a3)] [] s0
  refine k_aload_n C (dk dX0_pairsWithin_0 0 rfl) rfl 0 rfl ?_
  refine k_iload_n C (dk dX0_pairsWithin_0 1 rfl) rfl 1 rfl ?_
  refine k_iload_n C (dk dX0_pairsWithin_0 2 rfl) rfl 2 rfl ?_
  refine cl1_k h (fun s1 hc h => ?_)
  refine k_cv (T := TX0) (N := 9) (ci := 0) (ob := 28) (As := [.int a1, .int a2]) (st := []) C (qX0_start l g hg hc) (iW20 _ (List.mem_of_getElem? (i := 1) rfl)) (iW20 _ (List.mem_of_getElem? (i := 2) rfl)) (iW20 _ (List.mem_of_getElem? (i := 3) rfl)) (iW0 _ (List.mem_of_getElem? (i := 21) rfl)) (iW20 _ (List.mem_of_getElem? (i := 4) rfl)) rfl rfl hdX0_start (by decide) rfl (by decide) rfl rfl rfl (Nat.le_of_ble_eq_true rfl) (dk dX0_pairsWithin_0 3 rfl) ?_
  refine k_iconst (v := (1 : Int32)) C (dk dX0_pairsWithin_0 4 rfl) (by decide) ?_
  refine k_istore (lv' := [(4, .int (1 : Int32)), (0, .ref (g.2.2 28)), (1, .int a1), (2, .int a2), (3, .int a3)]) C (dk dX0_pairsWithin_0 5 rfl) (by decide) rfl ?_
  refine kl_L (P := (fun J9 => ∀ (y2 : Int32) (s3 : St), J9 y2 s3 = some (v, σe) → WK 9 [(0, .ref (g.2.2 28)), (3, .int a3), (4, .int y2)] [] s3)) h (fun _ _ h => nomatch h) (fun J9 hJ9 y2 s3 h => ?_) (fun J9 hJ9 h => ?_)
  ·
    unfold mX0_pairsWithin_9 at h
    refine k_iload C (dk dX0_pairsWithin_0 6 rfl) 2 rfl ?_
    refine k_iload_n C (dk dX0_pairsWithin_0 7 rfl) rfl 1 rfl ?_
    refine k_icmp_gt (tgt := 38) C (dk dX0_pairsWithin_0 8 rfl) (by decide) h (fun h => ?_) (fun h => ?_)
    ·
      refine k_aload_n C (dk dX0_pairsWithin_0 19 rfl) rfl 0 rfl ?_
      refine k_getR (q := 33) (D := RX0) (T := TX0) (N := 9) (ci := 0) (k := 4) C iCX0 rfl (by decide) rfl (by decide) (iW1 _ (List.mem_of_getElem? (i := 27) rfl)) rfl (dk dX0_pairsWithin_0 20 rfl) ?_
      refine cl2_k h (fun x5 s4 hc h => ?_)
      refine k_cs (As := [.ref (g.2.2 33)]) (st := []) C (qX0_bitsOf l g hg rfl hc) (iW16 _ (List.mem_of_getElem? (i := 16) rfl)) (iW16 _ (List.mem_of_getElem? (i := 17) rfl)) (iW0 _ (List.mem_of_getElem? (i := 21) rfl)) (iW16 _ (List.mem_of_getElem? (i := 18) rfl)) rfl rfl hdX0_bitsOf (by decide) rfl rfl (Nat.le_of_ble_eq_true rfl) (dk dX0_pairsWithin_0 21 rfl) ?_
      exact k_iret E (dk dX0_pairsWithin_0 22 rfl) h
    ·
      refine k_aload_n C (dk dX0_pairsWithin_0 9 rfl) rfl 0 rfl ?_
      refine k_iload C (dk dX0_pairsWithin_0 10 rfl) 2 rfl ?_
      refine cl2_k h (fun x7 s6 hc h => ?_)
      refine k_cv (T := TX0) (N := 9) (ci := 0) (ob := 28) (As := [.int y2]) (st := []) C (qX0_spreadOn l g hg hc) (iW20 _ (List.mem_of_getElem? (i := 13) rfl)) (iW20 _ (List.mem_of_getElem? (i := 14) rfl)) (iW20 _ (List.mem_of_getElem? (i := 15) rfl)) (iW0 _ (List.mem_of_getElem? (i := 21) rfl)) (iW20 _ (List.mem_of_getElem? (i := 16) rfl)) rfl rfl hdX0_spreadOn (by decide) rfl (by decide) rfl rfl rfl (Nat.le_of_ble_eq_true rfl) (dk dX0_pairsWithin_0 11 rfl) ?_
      refine k_if_ne (tgt := 32) C (dk dX0_pairsWithin_0 12 rfl) (by decide) h (fun h => ?_) (fun h => ?_)
      ·
        refine k_iinc (lv' := [(4, .int (y2 + 1)), (0, .ref (g.2.2 28)), (3, .int a3)]) C (dk dX0_pairsWithin_0 17 rfl) (j := 2) rfl rfl (by decide) rfl ?_
        refine k_goto (tgt := 9) C (dk dX0_pairsWithin_0 18 rfl) (by decide) ?_
        refine k_sub C [1, 2, 0] rfl ?_
        exact hJ9 _ _ h
      ·
        refine k_aload_n C (dk dX0_pairsWithin_0 13 rfl) rfl 0 rfl ?_
        refine k_getR (q := 33) (D := RX0) (T := TX0) (N := 9) (ci := 0) (k := 4) C iCX0 rfl (by decide) rfl (by decide) (iW1 _ (List.mem_of_getElem? (i := 27) rfl)) rfl (dk dX0_pairsWithin_0 14 rfl) ?_
        refine cl2_k h (fun x9 s8 hc h => ?_)
        refine k_cs (As := [.ref (g.2.2 33)]) (st := []) C (qX0_bitsOf l g hg rfl hc) (iW16 _ (List.mem_of_getElem? (i := 16) rfl)) (iW16 _ (List.mem_of_getElem? (i := 17) rfl)) (iW0 _ (List.mem_of_getElem? (i := 21) rfl)) (iW16 _ (List.mem_of_getElem? (i := 18) rfl)) rfl rfl hdX0_bitsOf (by decide) rfl rfl (Nat.le_of_ble_eq_true rfl) (dk dX0_pairsWithin_0 15 rfl) ?_
        exact k_iret E (dk dX0_pairsWithin_0 16 rfl) h
  ·
    refine k_sub C [1, 4, 0] rfl ?_
    exact hJ9 _ _ h
set_option maxRecDepth 100000 in
set_option maxHeartbeats 4000000 in
theorem qX0_walkHim (l : Launch) (g : G) (hg : gOK g)   {s0 σe : St} (h : mX0_walkHim s0 = some σe) : Mc l g yX0_walkHim cX0_walkHim 5 none { frames := 2, cells := 0, slots := 0, locals := 42 } [.ref (g.2.2 28)] s0 none σe := by
  refine k_enter hg pnRX0 rfl (Nat.le_of_ble_eq_true rfl) ?_
  intro WK E
  have C := kX_y E
  unfold mX0_walkHim at h
  show WK 0 [(0, .ref (g.2.2 28))] [] s0
  refine k_aload_n C (dk dX0_walkHim_0 0 rfl) rfl 0 rfl ?_
  refine k_getR (q := 37) (D := RX0) (T := TX0) (N := 9) (ci := 0) (k := 8) C iCX0 rfl (by decide) rfl (by decide) (iW2 _ (List.mem_of_getElem? (i := 1) rfl)) rfl (dk dX0_walkHim_0 1 rfl) ?_
  refine k_lconst (v := (0 : Int64)) C (dk dX0_walkHim_0 2 rfl) (by decide) ?_
  refine cl1_k h (fun s1 hc h => ?_)
  refine k_cs (As := [.ref (g.2.2 37), .long (0 : Int64)]) (st := []) C (qJ7_fill_d0a16 l g hg rfl hc) (iW20 _ (List.mem_of_getElem? (i := 9) rfl)) (iW20 _ (List.mem_of_getElem? (i := 10) rfl)) (iW20 _ (List.mem_of_getElem? (i := 7) rfl)) (iW20 _ (List.mem_of_getElem? (i := 11) rfl)) rfl rfl hdJ7_fill_d0a16 (by decide) rfl rfl (Nat.le_of_ble_eq_true rfl) (dk dX0_walkHim_0 3 rfl) ?_
  refine k_iconst (v := (0 : Int32)) C (dk dX0_walkHim_0 4 rfl) (by decide) ?_
  refine k_istore_n (lv' := [(1, .int (0 : Int32)), (0, .ref (g.2.2 28))]) C (dk dX0_walkHim_0 5 rfl) rfl (by decide) rfl ?_
  refine kl_L (P := (fun J10 => ∀ (y2 : Int32) (s3 : St), J10 y2 s3 = some σe → WK 10 [(0, .ref (g.2.2 28)), (1, .int y2)] [] s3)) h (fun _ _ h => nomatch h) (fun J10 hJ10 y2 s3 h => ?_) (fun J10 hJ10 h => ?_)
  ·
    unfold mX0_walkHim_10 at h
    refine k_iload_n C (dk dX0_walkHim_0 6 rfl) rfl 1 rfl ?_
    refine k_bipush (v := (36 : Int32)) C (dk dX0_walkHim_0 7 rfl) (by decide) ?_
    refine k_icmp_ge (tgt := 92) C (dk dX0_walkHim_0 8 rfl) (by decide) h (fun h => ?_) (fun h => ?_)
    ·
      exact k_vret E (dk dX0_walkHim_1 20 rfl) h
    ·
      refine k_iconst (v := (0 : Int32)) C (dk dX0_walkHim_0 9 rfl) (by decide) ?_
      refine k_istore_n (lv' := [(2, .int (0 : Int32)), (0, .ref (g.2.2 28)), (1, .int y2)]) C (dk dX0_walkHim_0 10 rfl) rfl (by decide) rfl ?_
      refine kl_L (P := (fun J18 => ∀ (y4 : Int32) (s5 : St), J18 y4 s5 = some σe → WK 18 [(0, .ref (g.2.2 28)), (1, .int y2), (2, .int y4)] [] s5)) h (fun _ _ h => nomatch h) (fun J18 hJ18 y4 s5 h => ?_) (fun J18 hJ18 h => ?_)
      ·
        unfold mX0_walkHim_18 at h
        refine k_iload_n C (dk dX0_walkHim_0 11 rfl) rfl 2 rfl ?_
        refine k_iconst (v := (5 : Int32)) C (dk dX0_walkHim_0 12 rfl) (by decide) ?_
        refine k_icmp_ge (tgt := 86) C (dk dX0_walkHim_0 13 rfl) (by decide) h (fun h => ?_) (fun h => ?_)
        ·
          refine k_iinc (lv' := [(1, .int (y2 + 1)), (0, .ref (g.2.2 28)), (2, .int y4)]) C (dk dX0_walkHim_1 18 rfl) (j := 1) rfl rfl (by decide) rfl ?_
          refine k_goto (tgt := 10) C (dk dX0_walkHim_1 19 rfl) (by decide) ?_
          refine k_sub C [1, 0] rfl ?_
          exact hJ10 _ _ h
        ·
          refine k_iload_n C (dk dX0_walkHim_0 14 rfl) rfl 1 rfl ?_
          refine k_iload_n C (dk dX0_walkHim_0 15 rfl) rfl 2 rfl ?_
          refine cl2_k h (fun x7 s6 hc h => ?_)
          refine k_cs (As := [.int y2, .int y4]) (st := []) C (qX7_cellTo l g hg hc) (iW20 _ (List.mem_of_getElem? (i := 22) rfl)) (iW7 _ (List.mem_of_getElem? (i := 3) rfl)) (iW7 _ (List.mem_of_getElem? (i := 4) rfl)) (iW7 _ (List.mem_of_getElem? (i := 5) rfl)) rfl rfl hdX7_cellTo (by decide) rfl rfl (Nat.le_of_ble_eq_true rfl) (dk dX0_walkHim_0 16 rfl) ?_
          refine k_istore_n (lv' := [(3, .int x7), (0, .ref (g.2.2 28)), (1, .int y2), (2, .int y4)]) C (dk dX0_walkHim_0 17 rfl) rfl (by decide) rfl ?_
          refine k_iconst (v := (0 : Int32)) C (dk dX0_walkHim_0 18 rfl) (by decide) ?_
          refine k_istore (lv' := [(4, .int (0 : Int32)), (3, .int x7), (0, .ref (g.2.2 28)), (1, .int y2), (2, .int y4)]) C (dk dX0_walkHim_0 19 rfl) (by decide) rfl ?_
          refine kl_L (P := (fun J32 => ∀ (y8 : Int32) (s9 : St), J32 y8 s9 = some σe → WK 32 [(0, .ref (g.2.2 28)), (1, .int y2), (2, .int y4), (3, .int x7), (4, .int y8)] [] s9)) h (fun _ _ h => nomatch h) (fun J32 hJ32 y8 s9 h => ?_) (fun J32 hJ32 h => ?_)
          ·
            unfold mX0_walkHim_32 at h
            refine k_iload C (dk dX0_walkHim_0 20 rfl) 4 rfl ?_
            refine k_bipush (v := (36 : Int32)) C (dk dX0_walkHim_0 21 rfl) (by decide) ?_
            refine kl_J (P := (fun J80 => ∀ (y10 : Int32) (s11 : St), J80 y10 s11 = some σe → WK 80 [(0, .ref (g.2.2 28)), (1, .int y2), (2, .int y10)] [] s11)) h (fun y10 s11 h => ?_) (fun J80 hJ80 h => ?_)
            ·
              unfold mX0_walkHim_80 at h
              refine k_iinc (lv' := [(2, .int (y10 + 1)), (0, .ref (g.2.2 28)), (1, .int y2)]) C (dk dX0_walkHim_1 16 rfl) (j := 2) rfl rfl (by decide) rfl ?_
              refine k_goto (tgt := 18) C (dk dX0_walkHim_1 17 rfl) (by decide) ?_
              refine k_sub C [1, 2, 0] rfl ?_
              exact hJ18 _ _ h
            ·
              refine k_icmp_ge (tgt := 80) C (dk dX0_walkHim_0 22 rfl) (by decide) h (fun h => ?_) (fun h => ?_)
              ·
                refine k_sub C [0, 1, 2] rfl ?_
                exact hJ80 _ _ h
              ·
                refine k_iload_n C (dk dX0_walkHim_0 23 rfl) rfl 3 rfl ?_
                refine k_i2l C (dk dX0_walkHim_0 24 rfl) ?_
                refine cl2_k h (fun x13 s12 hc h => ?_)
                refine k_cn (As := [.long x7.toInt64]) (st := []) C (qX10_isCell l g hg hc) (iW5 _ (List.mem_of_getElem? (i := 21) rfl)) rfl rfl (List.mem_of_getElem? (i := 5) rfl) (iW5 _ (List.mem_of_getElem? (i := 20) rfl)) (iW0 _ (List.mem_of_getElem? (i := 2) rfl)) hdX10_isCell (by decide) rfl rfl (Nat.le_of_ble_eq_true rfl) (dk dX0_walkHim_0 25 rfl) ?_
                refine k_if_eq (tgt := 80) C (dk dX0_walkHim_0 26 rfl) (by decide) h (fun h => ?_) (fun h => ?_)
                ·
                  refine k_sub C [0, 1, 2] rfl ?_
                  exact hJ80 _ _ h
                ·
                  refine k_aload_n C (dk dX0_walkHim_0 27 rfl) rfl 0 rfl ?_
                  refine k_getR (q := 37) (D := RX0) (T := TX0) (N := 9) (ci := 0) (k := 8) C iCX0 rfl (by decide) rfl (by decide) (iW2 _ (List.mem_of_getElem? (i := 1) rfl)) rfl (dk dX0_walkHim_0 28 rfl) ?_
                  refine k_iload_n C (dk dX0_walkHim_0 29 rfl) rfl 1 rfl ?_
                  refine k_bipush (v := (36 : Int32)) C (dk dX0_walkHim_0 30 rfl) (by decide) ?_
                  refine k_imul C (dk dX0_walkHim_0 31 rfl) ?_
                  refine k_iload C (dk dX0_walkHim_1 0 rfl) 4 rfl ?_
                  refine k_iadd C (dk dX0_walkHim_1 1 rfl) ?_
                  refine k_dup2 C (dk dX0_walkHim_1 2 rfl) rfl rfl ?_
                  refine k_lald C rfl rfl (dk dX0_walkHim_1 3 rfl) h (fun x14 h => ?_)
                  refine k_aload_n C (dk dX0_walkHim_1 4 rfl) rfl 0 rfl ?_
                  refine k_getR (q := 36) (D := RX0) (T := TX0) (N := 9) (ci := 0) (k := 7) C iCX0 rfl (by decide) rfl (by decide) (iW2 _ (List.mem_of_getElem? (i := 0) rfl)) rfl (dk dX0_walkHim_1 5 rfl) ?_
                  refine k_iload_n C (dk dX0_walkHim_1 6 rfl) rfl 3 rfl ?_
                  refine k_bipush (v := (36 : Int32)) C (dk dX0_walkHim_1 7 rfl) (by decide) ?_
                  refine k_imul C (dk dX0_walkHim_1 8 rfl) ?_
                  refine k_iload C (dk dX0_walkHim_1 9 rfl) 4 rfl ?_
                  refine k_iadd C (dk dX0_walkHim_1 10 rfl) ?_
                  refine k_lald C rfl rfl (dk dX0_walkHim_1 11 rfl) h (fun x15 h => ?_)
                  refine k_ladd C (dk dX0_walkHim_1 12 rfl) ?_
                  refine k_last C rfl rfl (dk dX0_walkHim_1 13 rfl) h (fun s16 h => ?_)
                  refine k_iinc (lv' := [(4, .int (y8 + 1)), (0, .ref (g.2.2 28)), (1, .int y2), (2, .int y4), (3, .int x7)]) C (dk dX0_walkHim_1 14 rfl) (j := 4) rfl rfl (by decide) rfl ?_
                  refine k_goto (tgt := 32) C (dk dX0_walkHim_1 15 rfl) (by decide) ?_
                  refine k_sub C [1, 2, 3, 4, 0] rfl ?_
                  exact hJ32 _ _ h
          ·
            refine k_sub C [2, 3, 4, 1, 0] rfl ?_
            exact hJ32 _ _ h
      ·
        refine k_sub C [1, 2, 0] rfl ?_
        exact hJ18 _ _ h
  ·
    refine k_sub C [1, 0] rfl ?_
    exact hJ10 _ _ h
set_option maxRecDepth 100000 in
set_option maxHeartbeats 4000000 in
theorem qX0_walkHer (l : Launch) (g : G) (hg : gOK g)   {s0 σe : St} (h : mX0_walkHer s0 = some σe) : Mc l g yX0_walkHer cX0_walkHer 5 none { frames := 2, cells := 0, slots := 0, locals := 42 } [.ref (g.2.2 28)] s0 none σe := by
  refine k_enter hg pnRX0 rfl (Nat.le_of_ble_eq_true rfl) ?_
  intro WK E
  have C := kX_y E
  unfold mX0_walkHer at h
  show WK 0 [(0, .ref (g.2.2 28))] [] s0
  refine k_aload_n C (dk dX0_walkHer_0 0 rfl) rfl 0 rfl ?_
  refine k_getR (q := 36) (D := RX0) (T := TX0) (N := 9) (ci := 0) (k := 7) C iCX0 rfl (by decide) rfl (by decide) (iW2 _ (List.mem_of_getElem? (i := 0) rfl)) rfl (dk dX0_walkHer_0 1 rfl) ?_
  refine k_lconst (v := (0 : Int64)) C (dk dX0_walkHer_0 2 rfl) (by decide) ?_
  refine cl1_k h (fun s1 hc h => ?_)
  refine k_cs (As := [.ref (g.2.2 36), .long (0 : Int64)]) (st := []) C (qJ7_fill_d0a16 l g hg rfl hc) (iW20 _ (List.mem_of_getElem? (i := 9) rfl)) (iW20 _ (List.mem_of_getElem? (i := 10) rfl)) (iW20 _ (List.mem_of_getElem? (i := 7) rfl)) (iW20 _ (List.mem_of_getElem? (i := 11) rfl)) rfl rfl hdJ7_fill_d0a16 (by decide) rfl rfl (Nat.le_of_ble_eq_true rfl) (dk dX0_walkHer_0 3 rfl) ?_
  refine k_iconst (v := (0 : Int32)) C (dk dX0_walkHer_0 4 rfl) (by decide) ?_
  refine k_istore_n (lv' := [(1, .int (0 : Int32)), (0, .ref (g.2.2 28))]) C (dk dX0_walkHer_0 5 rfl) rfl (by decide) rfl ?_
  refine kl_L (P := (fun J10 => ∀ (y2 : Int32) (s3 : St), J10 y2 s3 = some σe → WK 10 [(0, .ref (g.2.2 28)), (1, .int y2)] [] s3)) h (fun _ _ h => nomatch h) (fun J10 hJ10 y2 s3 h => ?_) (fun J10 hJ10 h => ?_)
  ·
    unfold mX0_walkHer_10 at h
    refine k_iload_n C (dk dX0_walkHer_0 6 rfl) rfl 1 rfl ?_
    refine k_bipush (v := (36 : Int32)) C (dk dX0_walkHer_0 7 rfl) (by decide) ?_
    refine k_icmp_ge (tgt := 108) C (dk dX0_walkHer_0 8 rfl) (by decide) h (fun h => ?_) (fun h => ?_)
    ·
      exact k_vret E (dk dX0_walkHer_1 31 rfl) h
    ·
      refine k_iconst (v := (0 : Int32)) C (dk dX0_walkHer_0 9 rfl) (by decide) ?_
      refine k_istore_n (lv' := [(2, .int (0 : Int32)), (0, .ref (g.2.2 28)), (1, .int y2)]) C (dk dX0_walkHer_0 10 rfl) rfl (by decide) rfl ?_
      refine kl_L (P := (fun J18 => ∀ (y4 : Int32) (s5 : St), J18 y4 s5 = some σe → WK 18 [(0, .ref (g.2.2 28)), (1, .int y2), (2, .int y4)] [] s5)) h (fun _ _ h => nomatch h) (fun J18 hJ18 y4 s5 h => ?_) (fun J18 hJ18 h => ?_)
      ·
        unfold mX0_walkHer_18 at h
        refine k_iload_n C (dk dX0_walkHer_0 11 rfl) rfl 2 rfl ?_
        refine k_iconst (v := (5 : Int32)) C (dk dX0_walkHer_0 12 rfl) (by decide) ?_
        refine k_icmp_ge (tgt := 102) C (dk dX0_walkHer_0 13 rfl) (by decide) h (fun h => ?_) (fun h => ?_)
        ·
          refine k_iinc (lv' := [(1, .int (y2 + 1)), (0, .ref (g.2.2 28)), (2, .int y4)]) C (dk dX0_walkHer_1 29 rfl) (j := 1) rfl rfl (by decide) rfl ?_
          refine k_goto (tgt := 10) C (dk dX0_walkHer_1 30 rfl) (by decide) ?_
          refine k_sub C [1, 0] rfl ?_
          exact hJ10 _ _ h
        ·
          refine k_iload_n C (dk dX0_walkHer_0 14 rfl) rfl 1 rfl ?_
          refine k_iload_n C (dk dX0_walkHer_0 15 rfl) rfl 2 rfl ?_
          refine cl2_k h (fun x7 s6 hc h => ?_)
          refine k_cs (As := [.int y2, .int y4]) (st := []) C (qX7_cellTo l g hg hc) (iW20 _ (List.mem_of_getElem? (i := 22) rfl)) (iW7 _ (List.mem_of_getElem? (i := 3) rfl)) (iW7 _ (List.mem_of_getElem? (i := 4) rfl)) (iW7 _ (List.mem_of_getElem? (i := 5) rfl)) rfl rfl hdX7_cellTo (by decide) rfl rfl (Nat.le_of_ble_eq_true rfl) (dk dX0_walkHer_0 16 rfl) ?_
          refine k_istore_n (lv' := [(3, .int x7), (0, .ref (g.2.2 28)), (1, .int y2), (2, .int y4)]) C (dk dX0_walkHer_0 17 rfl) rfl (by decide) rfl ?_
          refine k_iconst (v := (0 : Int32)) C (dk dX0_walkHer_0 18 rfl) (by decide) ?_
          refine k_istore (lv' := [(4, .int (0 : Int32)), (3, .int x7), (0, .ref (g.2.2 28)), (1, .int y2), (2, .int y4)]) C (dk dX0_walkHer_0 19 rfl) (by decide) rfl ?_
          refine kl_L (P := (fun J32 => ∀ (y8 : Int32) (s9 : St), J32 y8 s9 = some σe → WK 32 [(0, .ref (g.2.2 28)), (1, .int y2), (2, .int y4), (3, .int x7), (4, .int y8)] [] s9)) h (fun _ _ h => nomatch h) (fun J32 hJ32 y8 s9 h => ?_) (fun J32 hJ32 h => ?_)
          ·
            unfold mX0_walkHer_32 at h
            refine k_iload C (dk dX0_walkHer_0 20 rfl) 4 rfl ?_
            refine k_bipush (v := (36 : Int32)) C (dk dX0_walkHer_0 21 rfl) (by decide) ?_
            refine kl_J (P := (fun J96 => ∀ (y10 : Int32) (s11 : St), J96 y10 s11 = some σe → WK 96 [(0, .ref (g.2.2 28)), (1, .int y2), (2, .int y10)] [] s11)) h (fun y10 s11 h => ?_) (fun J96 hJ96 h => ?_)
            ·
              unfold mX0_walkHer_96 at h
              refine k_iinc (lv' := [(2, .int (y10 + 1)), (0, .ref (g.2.2 28)), (1, .int y2)]) C (dk dX0_walkHer_1 27 rfl) (j := 2) rfl rfl (by decide) rfl ?_
              refine k_goto (tgt := 18) C (dk dX0_walkHer_1 28 rfl) (by decide) ?_
              refine k_sub C [1, 2, 0] rfl ?_
              exact hJ18 _ _ h
            ·
              refine k_icmp_ge (tgt := 96) C (dk dX0_walkHer_0 22 rfl) (by decide) h (fun h => ?_) (fun h => ?_)
              ·
                refine k_sub C [0, 1, 2] rfl ?_
                exact hJ96 _ _ h
              ·
                refine k_iload_n C (dk dX0_walkHer_0 23 rfl) rfl 3 rfl ?_
                refine k_i2l C (dk dX0_walkHer_0 24 rfl) ?_
                refine cl2_k h (fun x13 s12 hc h => ?_)
                refine k_cn (As := [.long x7.toInt64]) (st := []) C (qX10_isCell l g hg hc) (iW5 _ (List.mem_of_getElem? (i := 21) rfl)) rfl rfl (List.mem_of_getElem? (i := 5) rfl) (iW5 _ (List.mem_of_getElem? (i := 20) rfl)) (iW0 _ (List.mem_of_getElem? (i := 2) rfl)) hdX10_isCell (by decide) rfl rfl (Nat.le_of_ble_eq_true rfl) (dk dX0_walkHer_0 25 rfl) ?_
                refine k_if_eq (tgt := 96) C (dk dX0_walkHer_0 26 rfl) (by decide) h (fun h => ?_) (fun h => ?_)
                ·
                  refine k_sub C [0, 1, 2] rfl ?_
                  exact hJ96 _ _ h
                ·
                  refine k_aload_n C (dk dX0_walkHer_0 27 rfl) rfl 0 rfl ?_
                  refine k_getR (q := 32) (D := RX0) (T := TX0) (N := 9) (ci := 0) (k := 3) C iCX0 rfl (by decide) rfl (by decide) (iW1 _ (List.mem_of_getElem? (i := 26) rfl)) rfl (dk dX0_walkHer_0 28 rfl) ?_
                  refine k_iload C (dk dX0_walkHer_0 29 rfl) 4 rfl ?_
                  refine k_lald C rfl rfl (dk dX0_walkHer_0 30 rfl) h (fun x14 h => ?_)
                  refine k_iload_n C (dk dX0_walkHer_0 31 rfl) rfl 1 rfl ?_
                  refine k_lshr C (dk dX0_walkHer_1 0 rfl) ?_
                  refine k_lconst (v := (1 : Int64)) C (dk dX0_walkHer_1 1 rfl) (by decide) ?_
                  refine k_land C (dk dX0_walkHer_1 2 rfl) ?_
                  refine k_lconst (v := (1 : Int64)) C (dk dX0_walkHer_1 3 rfl) (by decide) ?_
                  refine k_lcmp C (dk dX0_walkHer_1 4 rfl) ?_
                  refine kl_J (P := (fun J90 => ∀ (y15 : Int32) (s16 : St), J90 y15 s16 = some σe → WK 90 [(0, .ref (g.2.2 28)), (1, .int y2), (2, .int y4), (3, .int x7), (4, .int y15)] [] s16)) h (fun y15 s16 h => ?_) (fun J90 hJ90 h => ?_)
                  ·
                    unfold mX0_walkHer_90 at h
                    refine k_iinc (lv' := [(4, .int (y15 + 1)), (0, .ref (g.2.2 28)), (1, .int y2), (2, .int y4), (3, .int x7)]) C (dk dX0_walkHer_1 25 rfl) (j := 4) rfl rfl (by decide) rfl ?_
                    refine k_goto (tgt := 32) C (dk dX0_walkHer_1 26 rfl) (by decide) ?_
                    refine k_sub C [1, 2, 3, 4, 0] rfl ?_
                    exact hJ32 _ _ h
                  ·
                    refine k_if_ne (tgt := 90) C (dk dX0_walkHer_1 5 rfl) (by decide) h (fun h => ?_) (fun h => ?_)
                    ·
                      exact hJ90 _ _ h
                    ·
                      refine k_aload_n C (dk dX0_walkHer_1 6 rfl) rfl 0 rfl ?_
                      refine k_getR (q := 36) (D := RX0) (T := TX0) (N := 9) (ci := 0) (k := 7) C iCX0 rfl (by decide) rfl (by decide) (iW2 _ (List.mem_of_getElem? (i := 0) rfl)) rfl (dk dX0_walkHer_1 7 rfl) ?_
                      refine k_iload C (dk dX0_walkHer_1 8 rfl) 4 rfl ?_
                      refine k_bipush (v := (36 : Int32)) C (dk dX0_walkHer_1 9 rfl) (by decide) ?_
                      refine k_imul C (dk dX0_walkHer_1 10 rfl) ?_
                      refine k_iload_n C (dk dX0_walkHer_1 11 rfl) rfl 1 rfl ?_
                      refine k_iadd C (dk dX0_walkHer_1 12 rfl) ?_
                      refine k_dup2 C (dk dX0_walkHer_1 13 rfl) rfl rfl ?_
                      refine k_lald C rfl rfl (dk dX0_walkHer_1 14 rfl) h (fun x17 h => ?_)
                      refine k_aload_n C (dk dX0_walkHer_1 15 rfl) rfl 0 rfl ?_
                      refine k_getR (q := 37) (D := RX0) (T := TX0) (N := 9) (ci := 0) (k := 8) C iCX0 rfl (by decide) rfl (by decide) (iW2 _ (List.mem_of_getElem? (i := 1) rfl)) rfl (dk dX0_walkHer_1 16 rfl) ?_
                      refine k_iload C (dk dX0_walkHer_1 17 rfl) 4 rfl ?_
                      refine k_bipush (v := (36 : Int32)) C (dk dX0_walkHer_1 18 rfl) (by decide) ?_
                      refine k_imul C (dk dX0_walkHer_1 19 rfl) ?_
                      refine k_iload_n C (dk dX0_walkHer_1 20 rfl) rfl 3 rfl ?_
                      refine k_iadd C (dk dX0_walkHer_1 21 rfl) ?_
                      refine k_lald C rfl rfl (dk dX0_walkHer_1 22 rfl) h (fun x18 h => ?_)
                      refine k_ladd C (dk dX0_walkHer_1 23 rfl) ?_
                      refine k_last C rfl rfl (dk dX0_walkHer_1 24 rfl) h (fun s19 h => ?_)
                      exact hJ90 _ _ h
          ·
            refine k_sub C [2, 3, 4, 1, 0] rfl ?_
            exact hJ32 _ _ h
      ·
        refine k_sub C [1, 2, 0] rfl ?_
        exact hJ18 _ _ h
  ·
    refine k_sub C [1, 0] rfl ?_
    exact hJ10 _ _ h
set_option maxRecDepth 100000 in
set_option maxHeartbeats 4000000 in
theorem qX0_walk (l : Launch) (g : G) (hg : gOK g) {a1 : Int32} {a2 : Int32} {a3 : Int32}  {s0 σe : St} (h : mX0_walk a1 a2 a3 s0 = some σe) : Mc l g yX0_walk cX0_walk 5 none { frames := 3, cells := 0, slots := 0, locals := 66 } [.ref (g.2.2 28), .int a1, .int a2, .int a3] s0 none σe := by
  refine k_enter hg pnRX0 rfl (Nat.le_of_ble_eq_true rfl) ?_
  intro WK E
  have C := kX_y E
  unfold mX0_walk at h
  show WK 0 [(0, .ref (g.2.2 28)), (1, .int a1), (2, .int a2), (3, .int a3)] [] s0
  refine k_aload_n C (dk dX0_walk_0 0 rfl) rfl 0 rfl ?_
  refine k_getR (q := 36) (D := RX0) (T := TX0) (N := 9) (ci := 0) (k := 7) C iCX0 rfl (by decide) rfl (by decide) (iW2 _ (List.mem_of_getElem? (i := 0) rfl)) rfl (dk dX0_walk_0 1 rfl) ?_
  refine k_lconst (v := (0 : Int64)) C (dk dX0_walk_0 2 rfl) (by decide) ?_
  refine cl1_k h (fun s1 hc h => ?_)
  refine k_cs (As := [.ref (g.2.2 36), .long (0 : Int64)]) (st := []) C (qJ7_fill_d0a16 l g hg rfl hc) (iW20 _ (List.mem_of_getElem? (i := 9) rfl)) (iW20 _ (List.mem_of_getElem? (i := 10) rfl)) (iW20 _ (List.mem_of_getElem? (i := 7) rfl)) (iW20 _ (List.mem_of_getElem? (i := 11) rfl)) rfl rfl hdJ7_fill_d0a16 (by decide) rfl rfl (Nat.le_of_ble_eq_true rfl) (dk dX0_walk_0 3 rfl) ?_
  refine k_aload_n C (dk dX0_walk_0 4 rfl) rfl 0 rfl ?_
  refine k_iload_n C (dk dX0_walk_0 5 rfl) rfl 1 rfl ?_
  refine k_iload_n C (dk dX0_walk_0 6 rfl) rfl 2 rfl ?_
  refine cl2_k h (fun x3 s2 hc h => ?_)
  refine k_cv (T := TX0) (N := 9) (ci := 0) (ob := 28) (As := [.int a1, .int a2]) (st := []) C (qX0_isPair l g hg hc) (iW19 _ (List.mem_of_getElem? (i := 27) rfl)) (iW19 _ (List.mem_of_getElem? (i := 28) rfl)) (iW19 _ (List.mem_of_getElem? (i := 29) rfl)) (iW0 _ (List.mem_of_getElem? (i := 21) rfl)) (iW20 _ (List.mem_of_getElem? (i := 0) rfl)) rfl rfl hdX0_isPair (by decide) rfl (by decide) rfl rfl rfl (Nat.le_of_ble_eq_true rfl) (dk dX0_walk_0 7 rfl) ?_
  refine kl_J (P := (fun J29 => ∀ (s4 : St), J29 s4 = some σe → WK 29 [(0, .ref (g.2.2 28)), (3, .int a3)] [] s4)) h (fun s4 h => ?_) (fun J29 hJ29 h => ?_)
  ·
    unfold mX0_walk_29 at h
    refine k_iconst (v := (0 : Int32)) C (dk dX0_walk_0 18 rfl) (by decide) ?_
    refine k_istore (lv' := [(4, .int (0 : Int32)), (0, .ref (g.2.2 28)), (3, .int a3)]) C (dk dX0_walk_0 19 rfl) (by decide) rfl ?_
    refine kl_L (P := (fun J32 => ∀ (y5 : Int32) (s6 : St), J32 y5 s6 = some σe → WK 32 [(0, .ref (g.2.2 28)), (3, .int a3), (4, .int y5)] [] s6)) h (fun _ _ h => nomatch h) (fun J32 hJ32 y5 s6 h => ?_) (fun J32 hJ32 h => ?_)
    ·
      unfold mX0_walk_32 at h
      refine k_iload C (dk dX0_walk_0 20 rfl) 2 rfl ?_
      refine k_iload_n C (dk dX0_walk_0 21 rfl) rfl 1 rfl ?_
      refine k_icmp_ge (tgt := 52) C (dk dX0_walk_0 22 rfl) (by decide) h (fun h => ?_) (fun h => ?_)
      ·
        exact k_vret E (dk dX0_walk_0 29 rfl) h
      ·
        refine k_aload_n C (dk dX0_walk_0 23 rfl) rfl 0 rfl ?_
        refine cl1_k h (fun s7 hc h => ?_)
        refine k_cv (T := TX0) (N := 9) (ci := 0) (ob := 28) (As := []) (st := []) C (qX0_walkHim l g hg hc) (iW23 _ (List.mem_of_getElem? (i := 26) rfl)) (iW23 _ (List.mem_of_getElem? (i := 27) rfl)) (iW23 _ (List.mem_of_getElem? (i := 28) rfl)) (iW0 _ (List.mem_of_getElem? (i := 21) rfl)) (iW23 _ (List.mem_of_getElem? (i := 29) rfl)) rfl rfl hdX0_walkHim (by decide) rfl (by decide) rfl rfl rfl (Nat.le_of_ble_eq_true rfl) (dk dX0_walk_0 24 rfl) ?_
        refine k_aload_n C (dk dX0_walk_0 25 rfl) rfl 0 rfl ?_
        refine cl1_k h (fun s8 hc h => ?_)
        refine k_cv (T := TX0) (N := 9) (ci := 0) (ob := 28) (As := []) (st := []) C (qX0_walkHer l g hg hc) (iW24 _ (List.mem_of_getElem? (i := 0) rfl)) (iW24 _ (List.mem_of_getElem? (i := 1) rfl)) (iW24 _ (List.mem_of_getElem? (i := 2) rfl)) (iW0 _ (List.mem_of_getElem? (i := 21) rfl)) (iW24 _ (List.mem_of_getElem? (i := 3) rfl)) rfl rfl hdX0_walkHer (by decide) rfl (by decide) rfl rfl rfl (Nat.le_of_ble_eq_true rfl) (dk dX0_walk_0 26 rfl) ?_
        refine k_iinc (lv' := [(4, .int (y5 + 1)), (0, .ref (g.2.2 28)), (3, .int a3)]) C (dk dX0_walk_0 27 rfl) (j := 2) rfl rfl (by decide) rfl ?_
        refine k_goto (tgt := 32) C (dk dX0_walk_0 28 rfl) (by decide) ?_
        refine k_sub C [1, 2, 0] rfl ?_
        exact hJ32 _ _ h
    ·
      refine k_sub C [1, 2, 0] rfl ?_
      exact hJ32 _ _ h
  ·
    refine k_if_eq (tgt := 29) C (dk dX0_walk_0 8 rfl) (by decide) h (fun h => ?_) (fun h => ?_)
    ·
      refine k_sub C [0, 3] rfl ?_
      exact hJ29 _ h
    ·
      refine k_aload_n C (dk dX0_walk_0 9 rfl) rfl 0 rfl ?_
      refine k_getR (q := 36) (D := RX0) (T := TX0) (N := 9) (ci := 0) (k := 7) C iCX0 rfl (by decide) rfl (by decide) (iW2 _ (List.mem_of_getElem? (i := 0) rfl)) rfl (dk dX0_walk_0 10 rfl) ?_
      refine k_iload_n C (dk dX0_walk_0 11 rfl) rfl 1 rfl ?_
      refine k_bipush (v := (36 : Int32)) C (dk dX0_walk_0 12 rfl) (by decide) ?_
      refine k_imul C (dk dX0_walk_0 13 rfl) ?_
      refine k_iload_n C (dk dX0_walk_0 14 rfl) rfl 2 rfl ?_
      refine k_iadd C (dk dX0_walk_0 15 rfl) ?_
      refine k_lconst (v := (1 : Int64)) C (dk dX0_walk_0 16 rfl) (by decide) ?_
      refine k_last C rfl rfl (dk dX0_walk_0 17 rfl) h (fun s9 h => ?_)
      refine k_sub C [0, 3] rfl ?_
      exact hJ29 _ h
set_option maxRecDepth 100000 in
set_option maxHeartbeats 4000000 in
theorem qX0_walksTo (l : Launch) (g : G) (hg : gOK g) {a1 : Int32} {a2 : Int32}  {s0 σe : St} {v : Int64} (h : mX0_walksTo a1 a2 s0 = some (v, σe)) : Mc l g yX0_walksTo cX0_walksTo 3 (some .long) { frames := 1, cells := 0, slots := 0, locals := 21 } [.ref (g.2.2 28), .int a1, .int a2] s0 (some (.long v)) σe := by
  refine k_enter hg pnRX0 rfl (Nat.le_of_ble_eq_true rfl) ?_
  intro WK E
  have C := kX_y E
  unfold mX0_walksTo at h
  show WK 0 [(0, .ref (g.2.2 28)), (1, .int a1), (2, .int a2)] [] s0
  refine k_iload_n C (dk dX0_walksTo_0 0 rfl) rfl 1 rfl ?_
  refine k_i2l C (dk dX0_walksTo_0 1 rfl) ?_
  refine cl2_k h (fun x2 s1 hc h => ?_)
  refine k_cn (As := [.long a1.toInt64]) (st := []) C (qX10_isCell l g hg hc) (iW5 _ (List.mem_of_getElem? (i := 21) rfl)) rfl rfl (List.mem_of_getElem? (i := 5) rfl) (iW5 _ (List.mem_of_getElem? (i := 20) rfl)) (iW0 _ (List.mem_of_getElem? (i := 2) rfl)) hdX10_isCell (by decide) rfl rfl (Nat.le_of_ble_eq_true rfl) (dk dX0_walksTo_0 2 rfl) ?_
  refine k_if_eq (tgt := 30) C (dk dX0_walksTo_0 3 rfl) (by decide) h (fun h => ?_) (fun h => ?_)
  ·
    refine k_lconst (v := (0 : Int64)) C (dk dX0_walksTo_0 17 rfl) (by decide) ?_
    exact k_lret E (dk dX0_walksTo_0 18 rfl) h
  ·
    refine k_iload_n C (dk dX0_walksTo_0 4 rfl) rfl 2 rfl ?_
    refine k_i2l C (dk dX0_walksTo_0 5 rfl) ?_
    refine cl2_k h (fun x4 s3 hc h => ?_)
    refine k_cn (As := [.long a2.toInt64]) (st := []) C (qX10_isCell l g hg hc) (iW5 _ (List.mem_of_getElem? (i := 21) rfl)) rfl rfl (List.mem_of_getElem? (i := 5) rfl) (iW5 _ (List.mem_of_getElem? (i := 20) rfl)) (iW0 _ (List.mem_of_getElem? (i := 2) rfl)) hdX10_isCell (by decide) rfl rfl (Nat.le_of_ble_eq_true rfl) (dk dX0_walksTo_0 6 rfl) ?_
    refine k_if_eq (tgt := 30) C (dk dX0_walksTo_0 7 rfl) (by decide) h (fun h => ?_) (fun h => ?_)
    ·
      refine k_lconst (v := (0 : Int64)) C (dk dX0_walksTo_0 17 rfl) (by decide) ?_
      exact k_lret E (dk dX0_walksTo_0 18 rfl) h
    ·
      refine k_aload_n C (dk dX0_walksTo_0 8 rfl) rfl 0 rfl ?_
      refine k_getR (q := 36) (D := RX0) (T := TX0) (N := 9) (ci := 0) (k := 7) C iCX0 rfl (by decide) rfl (by decide) (iW2 _ (List.mem_of_getElem? (i := 0) rfl)) rfl (dk dX0_walksTo_0 9 rfl) ?_
      refine k_iload_n C (dk dX0_walksTo_0 10 rfl) rfl 1 rfl ?_
      refine k_bipush (v := (36 : Int32)) C (dk dX0_walksTo_0 11 rfl) (by decide) ?_
      refine k_imul C (dk dX0_walksTo_0 12 rfl) ?_
      refine k_iload_n C (dk dX0_walksTo_0 13 rfl) rfl 2 rfl ?_
      refine k_iadd C (dk dX0_walksTo_0 14 rfl) ?_
      refine k_lald C rfl rfl (dk dX0_walksTo_0 15 rfl) h (fun x5 h => ?_)
      refine k_goto (tgt := 31) C (dk dX0_walksTo_0 16 rfl) (by decide) ?_
      exact k_lret E (dk dX0_walksTo_0 18 rfl) h
set_option maxRecDepth 100000 in
set_option maxHeartbeats 4000000 in
theorem qX0_walksInAll (l : Launch) (g : G) (hg : gOK g)   {s0 σe : St} {v : Int64} (h : mX0_walksInAll s0 = some (v, σe)) : Mc l g yX0_walksInAll cX0_walksInAll 4 (some .long) { frames := 0, cells := 0, slots := 0, locals := 0 } [.ref (g.2.2 28)] s0 (some (.long v)) σe := by
  refine k_enter hg pnRX0 rfl (Nat.le_of_ble_eq_true rfl) ?_
  intro WK E
  have C := kX_y E
  unfold mX0_walksInAll at h
  show WK 0 [(0, .ref (g.2.2 28))] [] s0
  refine k_lconst (v := (0 : Int64)) C (dk dX0_walksInAll_0 0 rfl) (by decide) ?_
  refine k_lstore_n (lv' := [(1, .long (0 : Int64)), (0, .ref (g.2.2 28))]) C (dk dX0_walksInAll_0 1 rfl) rfl (by decide) rfl ?_
  refine k_iconst (v := (0 : Int32)) C (dk dX0_walksInAll_0 2 rfl) (by decide) ?_
  refine k_istore_n (lv' := [(3, .int (0 : Int32)), (1, .long (0 : Int64)), (0, .ref (g.2.2 28))]) C (dk dX0_walksInAll_0 3 rfl) rfl (by decide) rfl ?_
  refine kl_L (P := (fun J4 => ∀ (y1 : Int64) (y2 : Int32) (s3 : St), J4 y1 y2 s3 = some (v, σe) → WK 4 [(0, .ref (g.2.2 28)), (1, .long y1), (3, .int y2)] [] s3)) h (fun _ _ _ h => nomatch h) (fun J4 hJ4 y1 y2 s3 h => ?_) (fun J4 hJ4 h => ?_)
  ·
    unfold mX0_walksInAll_4 at h
    refine k_iload_n C (dk dX0_walksInAll_0 4 rfl) rfl 2 rfl ?_
    refine k_sipush (v := (1296 : Int32)) C (dk dX0_walksInAll_0 5 rfl) (by decide) ?_
    refine k_icmp_ge (tgt := 26) C (dk dX0_walksInAll_0 6 rfl) (by decide) h (fun h => ?_) (fun h => ?_)
    ·
      refine k_lload_n C (dk dX0_walksInAll_0 16 rfl) rfl 1 rfl ?_
      exact k_lret E (dk dX0_walksInAll_0 17 rfl) h
    ·
      refine k_lload_n C (dk dX0_walksInAll_0 7 rfl) rfl 1 rfl ?_
      refine k_aload_n C (dk dX0_walksInAll_0 8 rfl) rfl 0 rfl ?_
      refine k_getR (q := 36) (D := RX0) (T := TX0) (N := 9) (ci := 0) (k := 7) C iCX0 rfl (by decide) rfl (by decide) (iW2 _ (List.mem_of_getElem? (i := 0) rfl)) rfl (dk dX0_walksInAll_0 9 rfl) ?_
      refine k_iload_n C (dk dX0_walksInAll_0 10 rfl) rfl 2 rfl ?_
      refine k_lald C rfl rfl (dk dX0_walksInAll_0 11 rfl) h (fun x4 h => ?_)
      refine k_ladd C (dk dX0_walksInAll_0 12 rfl) ?_
      refine nmL h (fun x5 h => ?_)
      refine k_lstore_n (lv' := [(1, .long x5), (0, .ref (g.2.2 28)), (3, .int y2)]) C (dk dX0_walksInAll_0 13 rfl) rfl (by decide) rfl ?_
      refine k_iinc (lv' := [(3, .int (y2 + 1)), (1, .long x5), (0, .ref (g.2.2 28))]) C (dk dX0_walksInAll_0 14 rfl) (j := 2) rfl rfl (by decide) rfl ?_
      refine k_goto (tgt := 4) C (dk dX0_walksInAll_0 15 rfl) (by decide) ?_
      refine k_sub C [2, 1, 0] rfl ?_
      exact hJ4 _ _ _ h
  ·
    refine k_sub C [2, 1, 0] rfl ?_
    exact hJ4 _ _ _ h
set_option maxRecDepth 100000 in
set_option maxHeartbeats 4000000 in
theorem qX1_commonDivisor (l : Launch) (g : G) (hg : gOK g) {a0 : Int64} {a2 : Int64}  {s0 σe : St} {v : Int64} (h : mX1_commonDivisor a0 a2 s0 = some (v, σe)) : Mc l g yX1_commonDivisor cX1_commonDivisor 11 (some .long) { frames := 0, cells := 0, slots := 0, locals := 0 } [.long a0, .long a2] s0 (some (.long v)) σe := by
  refine k_enter hg pnRX1 rfl (Nat.le_of_ble_eq_true rfl) ?_
  intro WK E
  have C := kX_y E
  unfold mX1_commonDivisor at h
  show WK 0 [(0, .long a0), (2, .long a2)] [] s0
  refine k_lload_n C (dk dX1_commonDivisor_0 0 rfl) rfl 0 rfl ?_
  refine k_lstore (lv' := [(4, .long a0), (0, .long a0), (2, .long a2)]) C (dk dX1_commonDivisor_0 1 rfl) (by decide) rfl ?_
  refine k_lload_n C (dk dX1_commonDivisor_0 2 rfl) rfl 2 rfl ?_
  refine k_lstore (lv' := [(6, .long a2), (4, .long a0), (0, .long a0), (2, .long a2)]) C (dk dX1_commonDivisor_0 3 rfl) (by decide) rfl ?_
  refine k_iconst (v := (0 : Int32)) C (dk dX1_commonDivisor_0 4 rfl) (by decide) ?_
  refine k_istore (lv' := [(8, .int (0 : Int32)), (6, .long a2), (4, .long a0), (0, .long a0), (2, .long a2)]) C (dk dX1_commonDivisor_0 5 rfl) (by decide) rfl ?_
  refine kl_L (P := (fun J9 => ∀ (y1 : Int64) (y2 : Int64) (y3 : Int32) (s4 : St), J9 y1 y2 y3 s4 = some (v, σe) → WK 9 [(4, .long y1), (6, .long y2), (8, .int y3)] [] s4)) h (fun _ _ _ _ h => nomatch h) (fun J9 hJ9 y1 y2 y3 s4 h => ?_) (fun J9 hJ9 h => ?_)
  ·
    unfold mX1_commonDivisor_9 at h
    refine k_iload C (dk dX1_commonDivisor_0 6 rfl) 2 rfl ?_
    refine k_bipush (v := (100 : Int32)) C (dk dX1_commonDivisor_0 7 rfl) (by decide) ?_
    refine kl_J (P := (fun J44 => ∀ (s5 : St), J44 s5 = some (v, σe) → WK 44 [(4, .long y1)] [] s5)) h (fun s5 h => ?_) (fun J44 hJ44 h => ?_)
    ·
      unfold mX1_commonDivisor_44 at h
      refine k_lload C (dk dX1_commonDivisor_0 23 rfl) 0 rfl ?_
      exact k_lret E (dk dX1_commonDivisor_0 24 rfl) h
    ·
      refine k_icmp_ge (tgt := 44) C (dk dX1_commonDivisor_0 8 rfl) (by decide) h (fun h => ?_) (fun h => ?_)
      ·
        refine k_sub C [0] rfl ?_
        exact hJ44 _ h
      ·
        refine k_lload C (dk dX1_commonDivisor_0 9 rfl) 1 rfl ?_
        refine k_lconst (v := (0 : Int64)) C (dk dX1_commonDivisor_0 10 rfl) (by decide) ?_
        refine k_lcmp C (dk dX1_commonDivisor_0 11 rfl) ?_
        refine k_if_eq (tgt := 44) C (dk dX1_commonDivisor_0 12 rfl) (by decide) h (fun h => ?_) (fun h => ?_)
        ·
          refine k_sub C [0] rfl ?_
          exact hJ44 _ h
        ·
          refine k_lload C (dk dX1_commonDivisor_0 13 rfl) 0 rfl ?_
          refine k_lload C (dk dX1_commonDivisor_0 14 rfl) 1 rfl ?_
          refine k_lremv C (dk dX1_commonDivisor_0 15 rfl) h (fun h => ?_)
          refine nmL h (fun x6 h => ?_)
          refine k_lstore (lv' := [(9, .long x6), (4, .long y1), (6, .long y2), (8, .int y3)]) C (dk dX1_commonDivisor_0 16 rfl) (by decide) rfl ?_
          refine k_lload C (dk dX1_commonDivisor_0 17 rfl) 2 rfl ?_
          refine k_lstore (lv' := [(4, .long y2), (9, .long x6), (6, .long y2), (8, .int y3)]) C (dk dX1_commonDivisor_0 18 rfl) (by decide) rfl ?_
          refine k_lload C (dk dX1_commonDivisor_0 19 rfl) 1 rfl ?_
          refine k_lstore (lv' := [(6, .long x6), (4, .long y2), (9, .long x6), (8, .int y3)]) C (dk dX1_commonDivisor_0 20 rfl) (by decide) rfl ?_
          refine k_iinc (lv' := [(8, .int (y3 + 1)), (6, .long x6), (4, .long y2), (9, .long x6)]) C (dk dX1_commonDivisor_0 21 rfl) (j := 3) rfl rfl (by decide) rfl ?_
          refine k_goto (tgt := 9) C (dk dX1_commonDivisor_0 22 rfl) (by decide) ?_
          refine k_sub C [2, 1, 0] rfl ?_
          exact hJ9 _ _ _ _ h
  ·
    refine k_sub C [2, 1, 0] rfl ?_
    exact hJ9 _ _ _ _ h
set_option maxRecDepth 100000 in
set_option maxHeartbeats 4000000 in
theorem qX1_partOf (l : Launch) (g : G) (hg : gOK g) {a0 : Int64} {a2 : Int64} {a4 : Int32}  {s0 σe : St} {v : Int64} (h : mX1_partOf a0 a2 a4 s0 = some (v, σe)) : Mc l g yX1_partOf cX1_partOf 7 (some .long) { frames := 1, cells := 0, slots := 0, locals := 30 } [.long a0, .long a2, .int a4] s0 (some (.long v)) σe := by
  refine k_enter hg pnRX1 rfl (Nat.le_of_ble_eq_true rfl) ?_
  intro WK E
  have C := kX_y E
  unfold mX1_partOf at h
  show WK 0 [(0, .long a0), (2, .long a2), (4, .int a4)] [] s0
  refine k_lload_n C (dk dX1_partOf_0 0 rfl) rfl 0 rfl ?_
  refine k_lload_n C (dk dX1_partOf_0 1 rfl) rfl 1 rfl ?_
  refine cl2_k h (fun x2 s1 hc h => ?_)
  refine k_cs (As := [.long a0, .long a2]) (st := []) C (qX1_commonDivisor l g hg hc) (iW30 _ (List.mem_of_getElem? (i := 29) rfl)) (iW31 _ (List.mem_of_getElem? (i := 0) rfl)) (iW30 _ (List.mem_of_getElem? (i := 27) rfl)) (iW31 _ (List.mem_of_getElem? (i := 1) rfl)) rfl rfl hdX1_commonDivisor (by decide) rfl rfl (Nat.le_of_ble_eq_true rfl) (dk dX1_partOf_0 2 rfl) ?_
  refine k_lstore (lv' := [(5, .long x2), (0, .long a0), (2, .long a2), (4, .int a4)]) C (dk dX1_partOf_0 3 rfl) (by decide) rfl ?_
  refine k_lload_n C (dk dX1_partOf_0 4 rfl) rfl 1 rfl ?_
  refine k_lconst (v := (0 : Int64)) C (dk dX1_partOf_0 5 rfl) (by decide) ?_
  refine k_lcmp C (dk dX1_partOf_0 6 rfl) ?_
  refine kl_J (P := (fun J20 => ∀ (s3 : St), J20 s3 = some (v, σe) → WK 20 [(4, .int a4)] [] s3)) h (fun s3 h => ?_) (fun J20 hJ20 h => ?_)
  ·
    unfold mX1_partOf_20 at h
    refine k_iload C (dk dX1_partOf_0 12 rfl) 0 rfl ?_
    refine k_if_ne (tgt := 29) C (dk dX1_partOf_0 13 rfl) (by decide) h (fun h => ?_) (fun h => ?_)
    ·
      refine k_lconst (v := (1 : Int64)) C (dk dX1_partOf_0 16 rfl) (by decide) ?_
      exact k_lret E (dk dX1_partOf_0 17 rfl) h
    ·
      refine k_lconst (v := (0 : Int64)) C (dk dX1_partOf_0 14 rfl) (by decide) ?_
      refine k_goto (tgt := 30) C (dk dX1_partOf_0 15 rfl) (by decide) ?_
      exact k_lret E (dk dX1_partOf_0 17 rfl) h
  ·
    refine k_if_eq (tgt := 20) C (dk dX1_partOf_0 7 rfl) (by decide) h (fun h => ?_) (fun h => ?_)
    ·
      refine k_sub C [3] rfl ?_
      exact hJ20 _ h
    ·
      refine k_lload C (dk dX1_partOf_0 8 rfl) 0 rfl ?_
      refine k_lconst (v := (0 : Int64)) C (dk dX1_partOf_0 9 rfl) (by decide) ?_
      refine k_lcmp C (dk dX1_partOf_0 10 rfl) ?_
      refine k_if_ne (tgt := 31) C (dk dX1_partOf_0 11 rfl) (by decide) h (fun h => ?_) (fun h => ?_)
      ·
        refine k_iload C (dk dX1_partOf_0 18 rfl) 3 rfl ?_
        refine k_if_ne (tgt := 43) C (dk dX1_partOf_0 19 rfl) (by decide) h (fun h => ?_) (fun h => ?_)
        ·
          refine k_lload_n C (dk dX1_partOf_0 24 rfl) rfl 2 rfl ?_
          refine k_lload C (dk dX1_partOf_0 25 rfl) 0 rfl ?_
          refine k_ldivv C (dk dX1_partOf_0 26 rfl) h (fun h => ?_)
          exact k_lret E (dk dX1_partOf_0 27 rfl) h
        ·
          refine k_lload_n C (dk dX1_partOf_0 20 rfl) rfl 1 rfl ?_
          refine k_lload C (dk dX1_partOf_0 21 rfl) 0 rfl ?_
          refine k_ldivv C (dk dX1_partOf_0 22 rfl) h (fun h => ?_)
          refine k_goto (tgt := 47) C (dk dX1_partOf_0 23 rfl) (by decide) ?_
          exact k_lret E (dk dX1_partOf_0 27 rfl) h
      ·
        refine k_sub C [3] rfl ?_
        exact hJ20 _ h
set_option maxRecDepth 100000 in
set_option maxHeartbeats 4000000 in
theorem qX2_isKind (l : Launch) (g : G) (hg : gOK g) {a0 : Int32}  {s0 σe : St} {v : Int32} (h : mX2_isKind a0 s0 = some (v, σe)) : Mc l g yX2_isKind cX2_isKind 1 (some .boolean) { frames := 0, cells := 0, slots := 0, locals := 0 } [.int a0] s0 (some (.int v)) σe := by
  refine k_enter hg pnRX2 rfl (Nat.le_of_ble_eq_true rfl) ?_
  intro WK E
  have C := kX_y E
  unfold mX2_isKind at h
  show WK 0 [(0, .int a0)] [] s0
  refine k_iload_n C (dk dX2_isKind_0 0 rfl) rfl 0 rfl ?_
  refine k_if_lt (tgt := 14) C (dk dX2_isKind_0 1 rfl) (by decide) h (fun h => ?_) (fun h => ?_)
  ·
    refine k_iconst (v := (0 : Int32)) C (dk dX2_isKind_0 7 rfl) (by decide) ?_
    exact k_zret E (dk dX2_isKind_0 8 rfl) h
  ·
    refine k_iload_n C (dk dX2_isKind_0 2 rfl) rfl 0 rfl ?_
    refine k_bipush (v := (7 : Int32)) C (dk dX2_isKind_0 3 rfl) (by decide) ?_
    refine k_icmp_gt (tgt := 14) C (dk dX2_isKind_0 4 rfl) (by decide) h (fun h => ?_) (fun h => ?_)
    ·
      refine k_iconst (v := (0 : Int32)) C (dk dX2_isKind_0 7 rfl) (by decide) ?_
      exact k_zret E (dk dX2_isKind_0 8 rfl) h
    ·
      refine k_iconst (v := (1 : Int32)) C (dk dX2_isKind_0 5 rfl) (by decide) ?_
      refine k_goto (tgt := 15) C (dk dX2_isKind_0 6 rfl) (by decide) ?_
      exact k_zret E (dk dX2_isKind_0 8 rfl) h
set_option maxRecDepth 100000 in
set_option maxHeartbeats 4000000 in
theorem qX2_chanceOf (l : Launch) (g : G) (hg : gOK g) {a0 : Int32} {a1 : Int32}  {s0 σe : St} {v : Int32} (h : mX2_chanceOf a0 a1 s0 = some (v, σe)) : Mc l g yX2_chanceOf cX2_chanceOf 2 (some .int) { frames := 0, cells := 0, slots := 0, locals := 0 } [.int a0, .int a1] s0 (some (.int v)) σe := by
  refine k_enter hg pnRX2 rfl (Nat.le_of_ble_eq_true rfl) ?_
  intro WK E
  have C := kX_y E
  unfold mX2_chanceOf at h
  show WK 0 [(0, .int a0), (1, .int a1)] [] s0
  refine k_iload_n C (dk dX2_chanceOf_0 0 rfl) rfl 0 rfl ?_
  by_cases e0 : a0 = (2 : Int32)
  · replace h := (if_pos e0).symm.trans h
    refine k_tsIn (q := (2 : Int32)) (tgt := 40) C (dk dX2_chanceOf_0 1 rfl) (by decide) (by decide) rfl (by decide) e0 ?_
    refine k_bipush (v := (9 : Int32)) C (dk dX2_chanceOf_0 2 rfl) (by decide) ?_
    exact k_iret E (dk dX2_chanceOf_0 3 rfl) h
  replace h := (if_neg e0).symm.trans h
  by_cases e1 : a0 = (3 : Int32)
  · replace h := (if_pos e1).symm.trans h
    refine k_tsIn (q := (3 : Int32)) (tgt := 43) C (dk dX2_chanceOf_0 1 rfl) (by decide) (by decide) rfl (by decide) e1 ?_
    refine k_iconst (v := (5 : Int32)) C (dk dX2_chanceOf_0 4 rfl) (by decide) ?_
    exact k_iret E (dk dX2_chanceOf_0 5 rfl) h
  replace h := (if_neg e1).symm.trans h
  by_cases e2 : a0 = (4 : Int32)
  · replace h := (if_pos e2).symm.trans h
    refine k_tsIn (q := (4 : Int32)) (tgt := 45) C (dk dX2_chanceOf_0 1 rfl) (by decide) (by decide) rfl (by decide) e2 ?_
    refine k_iconst (v := (5 : Int32)) C (dk dX2_chanceOf_0 6 rfl) (by decide) ?_
    refine k_iload_n C (dk dX2_chanceOf_0 7 rfl) rfl 1 rfl ?_
    refine k_iconst (v := (3 : Int32)) C (dk dX2_chanceOf_0 8 rfl) (by decide) ?_
    refine k_idiv C (dk dX2_chanceOf_0 9 rfl) (by decide) ?_
    refine k_iadd C (dk dX2_chanceOf_0 10 rfl) ?_
    exact k_iret E (dk dX2_chanceOf_0 11 rfl) h
  replace h := (if_neg e2).symm.trans h
  by_cases e3 : a0 = (5 : Int32)
  · replace h := (if_pos e3).symm.trans h
    refine k_tsIn (q := (5 : Int32)) (tgt := 51) C (dk dX2_chanceOf_0 1 rfl) (by decide) (by decide) rfl (by decide) e3 ?_
    refine k_iconst (v := (0 : Int32)) C (dk dX2_chanceOf_0 12 rfl) (by decide) ?_
    exact k_iret E (dk dX2_chanceOf_0 13 rfl) h
  replace h := (if_neg e3).symm.trans h
  by_cases e4 : a0 = (6 : Int32)
  · replace h := (if_pos e4).symm.trans h
    refine k_tsIn (q := (6 : Int32)) (tgt := 53) C (dk dX2_chanceOf_0 1 rfl) (by decide) (by decide) rfl (by decide) e4 ?_
    refine k_bipush (v := (8 : Int32)) C (dk dX2_chanceOf_0 14 rfl) (by decide) ?_
    exact k_iret E (dk dX2_chanceOf_0 15 rfl) h
  replace h := (if_neg e4).symm.trans h
  by_cases e5 : a0 = (7 : Int32)
  · replace h := (if_pos e5).symm.trans h
    refine k_tsIn (q := (7 : Int32)) (tgt := 56) C (dk dX2_chanceOf_0 1 rfl) (by decide) (by decide) rfl (by decide) e5 ?_
    refine k_bipush (v := (10 : Int32)) C (dk dX2_chanceOf_0 16 rfl) (by decide) ?_
    refine k_iload_n C (dk dX2_chanceOf_0 17 rfl) rfl 1 rfl ?_
    refine k_isub C (dk dX2_chanceOf_0 18 rfl) ?_
    exact k_iret E (dk dX2_chanceOf_0 19 rfl) h
  replace h := (if_neg e5).symm.trans h
  refine k_tsOut (tgt := 61) C (dk dX2_chanceOf_0 1 rfl) (by have n0 : a0.toInt ≠ 2 := fun q => e0 (Int32.toInt_inj.mp (q.trans (by decide))); have n1 : a0.toInt ≠ 3 := fun q => e1 (Int32.toInt_inj.mp (q.trans (by decide))); have n2 : a0.toInt ≠ 4 := fun q => e2 (Int32.toInt_inj.mp (q.trans (by decide))); have n3 : a0.toInt ≠ 5 := fun q => e3 (Int32.toInt_inj.mp (q.trans (by decide))); have n4 : a0.toInt ≠ 6 := fun q => e4 (Int32.toInt_inj.mp (q.trans (by decide))); have n5 : a0.toInt ≠ 7 := fun q => e5 (Int32.toInt_inj.mp (q.trans (by decide))); omega) (by decide) ?_
  refine k_bipush (v := (10 : Int32)) C (dk dX2_chanceOf_0 20 rfl) (by decide) ?_
  exact k_iret E (dk dX2_chanceOf_0 21 rfl) h
set_option maxRecDepth 100000 in
set_option maxHeartbeats 4000000 in
theorem qX2_costOf (l : Launch) (g : G) (hg : gOK g) {a0 : Int32} {a1 : Int32}  {s0 σe : St} {v : Int32} (h : mX2_costOf a0 a1 s0 = some (v, σe)) : Mc l g yX2_costOf cX2_costOf 2 (some .int) { frames := 1, cells := 0, slots := 0, locals := 24 } [.int a0, .int a1] s0 (some (.int v)) σe := by
  refine k_enter hg pnRX2 rfl (Nat.le_of_ble_eq_true rfl) ?_
  intro WK E
  have C := kX_y E
  unfold mX2_costOf at h
  show WK 0 [(0, .int a0), (1, .int a1)] [] s0
  refine k_iload_n C (dk dX2_costOf_0 0 rfl) rfl 0 rfl ?_
  by_cases e0 : a0 = (1 : Int32)
  · replace h := (if_pos e0).symm.trans h
    refine k_tsIn (q := (1 : Int32)) (tgt := 44) C (dk dX2_costOf_0 1 rfl) (by decide) (by decide) rfl (by decide) e0 ?_
    refine k_iconst (v := (1 : Int32)) C (dk dX2_costOf_0 2 rfl) (by decide) ?_
    exact k_iret E (dk dX2_costOf_0 3 rfl) h
  replace h := (if_neg e0).symm.trans h
  by_cases e1 : a0 = (2 : Int32)
  · replace h := (if_pos e1).symm.trans h
    refine k_tsIn (q := (2 : Int32)) (tgt := 46) C (dk dX2_costOf_0 1 rfl) (by decide) (by decide) rfl (by decide) e1 ?_
    refine k_iconst (v := (4 : Int32)) C (dk dX2_costOf_0 4 rfl) (by decide) ?_
    exact k_iret E (dk dX2_costOf_0 5 rfl) h
  replace h := (if_neg e1).symm.trans h
  by_cases e2 : a0 = (3 : Int32)
  · replace h := (if_pos e2).symm.trans h
    refine k_tsIn (q := (3 : Int32)) (tgt := 48) C (dk dX2_costOf_0 1 rfl) (by decide) (by decide) rfl (by decide) e2 ?_
    refine k_bipush (v := (8 : Int32)) C (dk dX2_costOf_0 6 rfl) (by decide) ?_
    exact k_iret E (dk dX2_costOf_0 7 rfl) h
  replace h := (if_neg e2).symm.trans h
  by_cases e3 : a0 = (4 : Int32)
  · replace h := (if_pos e3).symm.trans h
    refine k_tsIn (q := (4 : Int32)) (tgt := 51) C (dk dX2_costOf_0 1 rfl) (by decide) (by decide) rfl (by decide) e3 ?_
    refine k_iconst (v := (1 : Int32)) C (dk dX2_costOf_0 8 rfl) (by decide) ?_
    refine k_bipush (v := (8 : Int32)) C (dk dX2_costOf_0 9 rfl) (by decide) ?_
    refine k_iload_n C (dk dX2_costOf_0 10 rfl) rfl 1 rfl ?_
    refine k_isub C (dk dX2_costOf_0 11 rfl) ?_
    refine k_mmax C (iW38 _ (List.mem_of_getElem? (i := 10) rfl)) (iW27 _ (List.mem_of_getElem? (i := 21) rfl)) (iW7 _ (List.mem_of_getElem? (i := 17) rfl)) (iW27 _ (List.mem_of_getElem? (i := 22) rfl)) (Nat.le_of_ble_eq_true rfl) (Nat.le_of_ble_eq_true rfl) (dk dX2_costOf_0 12 rfl) ?_
    exact k_iret E (dk dX2_costOf_0 13 rfl) h
  replace h := (if_neg e3).symm.trans h
  by_cases e4 : a0 = (5 : Int32)
  · replace h := (if_pos e4).symm.trans h
    refine k_tsIn (q := (5 : Int32)) (tgt := 60) C (dk dX2_costOf_0 1 rfl) (by decide) (by decide) rfl (by decide) e4 ?_
    refine k_bipush (v := (9 : Int32)) C (dk dX2_costOf_0 14 rfl) (by decide) ?_
    exact k_iret E (dk dX2_costOf_0 15 rfl) h
  replace h := (if_neg e4).symm.trans h
  by_cases e5 : a0 = (6 : Int32)
  · replace h := (if_pos e5).symm.trans h
    refine k_tsIn (q := (6 : Int32)) (tgt := 63) C (dk dX2_costOf_0 1 rfl) (by decide) (by decide) rfl (by decide) e5 ?_
    refine k_bipush (v := (9 : Int32)) C (dk dX2_costOf_0 16 rfl) (by decide) ?_
    refine k_iload_n C (dk dX2_costOf_0 17 rfl) rfl 1 rfl ?_
    refine k_iadd C (dk dX2_costOf_0 18 rfl) ?_
    exact k_iret E (dk dX2_costOf_0 19 rfl) h
  replace h := (if_neg e5).symm.trans h
  by_cases e6 : a0 = (7 : Int32)
  · replace h := (if_pos e6).symm.trans h
    refine k_tsIn (q := (7 : Int32)) (tgt := 68) C (dk dX2_costOf_0 1 rfl) (by decide) (by decide) rfl (by decide) e6 ?_
    refine k_iconst (v := (3 : Int32)) C (dk dX2_costOf_0 20 rfl) (by decide) ?_
    refine k_iload_n C (dk dX2_costOf_0 21 rfl) rfl 1 rfl ?_
    refine k_iadd C (dk dX2_costOf_0 22 rfl) ?_
    exact k_iret E (dk dX2_costOf_0 23 rfl) h
  replace h := (if_neg e6).symm.trans h
  refine k_tsOut (tgt := 72) C (dk dX2_costOf_0 1 rfl) (by have n0 : a0.toInt ≠ 1 := fun q => e0 (Int32.toInt_inj.mp (q.trans (by decide))); have n1 : a0.toInt ≠ 2 := fun q => e1 (Int32.toInt_inj.mp (q.trans (by decide))); have n2 : a0.toInt ≠ 3 := fun q => e2 (Int32.toInt_inj.mp (q.trans (by decide))); have n3 : a0.toInt ≠ 4 := fun q => e3 (Int32.toInt_inj.mp (q.trans (by decide))); have n4 : a0.toInt ≠ 5 := fun q => e4 (Int32.toInt_inj.mp (q.trans (by decide))); have n5 : a0.toInt ≠ 6 := fun q => e5 (Int32.toInt_inj.mp (q.trans (by decide))); have n6 : a0.toInt ≠ 7 := fun q => e6 (Int32.toInt_inj.mp (q.trans (by decide))); omega) (by decide) ?_
  refine k_iconst (v := (3 : Int32)) C (dk dX2_costOf_0 24 rfl) (by decide) ?_
  exact k_iret E (dk dX2_costOf_0 25 rfl) h
set_option maxRecDepth 100000 in
set_option maxHeartbeats 4000000 in
theorem qX3_becomes (l : Launch) (g : G) (hg : gOK g) {o0 : Nat} {o1 : Nat} (ho0 : kd o0 = 1) (ho1 : kd o1 = 1) {s0 σe : St} (h : mX3_becomes o0 o1 s0 = some σe) : Mc l g yX3_becomes cX3_becomes 3 none { frames := 0, cells := 0, slots := 0, locals := 0 } [.ref (g.2.2 o0), .ref (g.2.2 o1)] s0 none σe := by
  refine k_enter hg pnRX3 rfl (Nat.le_of_ble_eq_true rfl) ?_
  intro WK E
  have C := kX_y E
  unfold mX3_becomes at h
  show WK 0 [(0, .ref (g.2.2 o0)), (1, .ref (g.2.2 o1))] [] s0
  refine k_iconst (v := (0 : Int32)) C (dk dX3_becomes_0 0 rfl) (by decide) ?_
  refine k_istore_n (lv' := [(2, .int (0 : Int32)), (0, .ref (g.2.2 o0)), (1, .ref (g.2.2 o1))]) C (dk dX3_becomes_0 1 rfl) rfl (by decide) rfl ?_
  refine kl_L (P := (fun J2 => ∀ (y1 : Int32) (s2 : St), J2 y1 s2 = some σe → WK 2 [(0, .ref (g.2.2 o0)), (1, .ref (g.2.2 o1)), (2, .int y1)] [] s2)) h (fun _ _ h => nomatch h) (fun J2 hJ2 y1 s2 h => ?_) (fun J2 hJ2 h => ?_)
  ·
    unfold mX3_becomes_2 at h
    refine k_iload_n C (dk dX3_becomes_0 2 rfl) rfl 2 rfl ?_
    refine k_bipush (v := (36 : Int32)) C (dk dX3_becomes_0 3 rfl) (by decide) ?_
    refine k_icmp_ge (tgt := 38) C (dk dX3_becomes_0 4 rfl) (by decide) h (fun h => ?_) (fun h => ?_)
    ·
      refine k_aload_n C (dk dX3_becomes_0 23 rfl) rfl 0 rfl ?_
      refine k_aload_n C (dk dX3_becomes_0 24 rfl) rfl 1 rfl ?_
      refine k_getI (D := RX3) (T := TX3) (N := 10) (ci := 1) (k := 2) C iCX3 ho1 (by decide) rfl (by decide) (iW1 _ (List.mem_of_getElem? (i := 12) rfl)) rfl (dk dX3_becomes_0 25 rfl) h (fun x3 h => ?_)
      refine k_putI (D := RX3) (T := TX3) (N := 10) (ci := 1) (k := 2) C iCX3 tyX3_ok nmX3 ho0 (by decide) rfl (by decide) (iW1 _ (List.mem_of_getElem? (i := 12) rfl)) rfl rfl flq1_2 flp1_2 (dk dX3_becomes_0 26 rfl) h (fun s4 h => ?_)
      refine k_aload_n C (dk dX3_becomes_0 27 rfl) rfl 0 rfl ?_
      refine k_aload_n C (dk dX3_becomes_0 28 rfl) rfl 1 rfl ?_
      refine k_getI (D := RX3) (T := TX3) (N := 10) (ci := 1) (k := 3) C iCX3 ho1 (by decide) rfl (by decide) (iW1 _ (List.mem_of_getElem? (i := 13) rfl)) rfl (dk dX3_becomes_0 29 rfl) h (fun x5 h => ?_)
      refine k_putI (D := RX3) (T := TX3) (N := 10) (ci := 1) (k := 3) C iCX3 tyX3_ok nmX3 ho0 (by decide) rfl (by decide) (iW1 _ (List.mem_of_getElem? (i := 13) rfl)) rfl rfl flq1_3 flp1_3 (dk dX3_becomes_0 30 rfl) h (fun s6 h => ?_)
      refine k_aload_n C (dk dX3_becomes_0 31 rfl) rfl 0 rfl ?_
      refine k_aload_n C (dk dX3_becomes_1 0 rfl) rfl 1 rfl ?_
      refine k_getI (D := RX3) (T := TX3) (N := 10) (ci := 1) (k := 4) C iCX3 ho1 (by decide) rfl (by decide) (iW1 _ (List.mem_of_getElem? (i := 14) rfl)) rfl (dk dX3_becomes_1 1 rfl) h (fun x7 h => ?_)
      refine k_putI (D := RX3) (T := TX3) (N := 10) (ci := 1) (k := 4) C iCX3 tyX3_ok nmX3 ho0 (by decide) rfl (by decide) (iW1 _ (List.mem_of_getElem? (i := 14) rfl)) rfl rfl flq1_4 flp1_4 (dk dX3_becomes_1 2 rfl) h (fun s8 h => ?_)
      refine k_aload_n C (dk dX3_becomes_1 3 rfl) rfl 0 rfl ?_
      refine k_aload_n C (dk dX3_becomes_1 4 rfl) rfl 1 rfl ?_
      refine k_getI (D := RX3) (T := TX3) (N := 10) (ci := 1) (k := 5) C iCX3 ho1 (by decide) rfl (by decide) (iW1 _ (List.mem_of_getElem? (i := 15) rfl)) rfl (dk dX3_becomes_1 5 rfl) h (fun x9 h => ?_)
      refine k_putI (D := RX3) (T := TX3) (N := 10) (ci := 1) (k := 5) C iCX3 tyX3_ok nmX3 ho0 (by decide) rfl (by decide) (iW1 _ (List.mem_of_getElem? (i := 15) rfl)) rfl rfl flq1_5 flp1_5 (dk dX3_becomes_1 6 rfl) h (fun s10 h => ?_)
      refine k_aload_n C (dk dX3_becomes_1 7 rfl) rfl 0 rfl ?_
      refine k_aload_n C (dk dX3_becomes_1 8 rfl) rfl 1 rfl ?_
      refine k_getI (D := RX3) (T := TX3) (N := 10) (ci := 1) (k := 6) C iCX3 ho1 (by decide) rfl (by decide) (iW1 _ (List.mem_of_getElem? (i := 16) rfl)) rfl (dk dX3_becomes_1 9 rfl) h (fun x11 h => ?_)
      refine k_putI (D := RX3) (T := TX3) (N := 10) (ci := 1) (k := 6) C iCX3 tyX3_ok nmX3 ho0 (by decide) rfl (by decide) (iW1 _ (List.mem_of_getElem? (i := 16) rfl)) rfl rfl flq1_6 flp1_6 (dk dX3_becomes_1 10 rfl) h (fun s12 h => ?_)
      refine k_aload_n C (dk dX3_becomes_1 11 rfl) rfl 0 rfl ?_
      refine k_aload_n C (dk dX3_becomes_1 12 rfl) rfl 1 rfl ?_
      refine k_getI (D := RX3) (T := TX3) (N := 10) (ci := 1) (k := 7) C iCX3 ho1 (by decide) rfl (by decide) (iW1 _ (List.mem_of_getElem? (i := 17) rfl)) rfl (dk dX3_becomes_1 13 rfl) h (fun x13 h => ?_)
      refine k_putI (D := RX3) (T := TX3) (N := 10) (ci := 1) (k := 7) C iCX3 tyX3_ok nmX3 ho0 (by decide) rfl (by decide) (iW1 _ (List.mem_of_getElem? (i := 17) rfl)) rfl rfl flq1_7 flp1_7 (dk dX3_becomes_1 14 rfl) h (fun s14 h => ?_)
      refine k_aload_n C (dk dX3_becomes_1 15 rfl) rfl 0 rfl ?_
      refine k_aload_n C (dk dX3_becomes_1 16 rfl) rfl 1 rfl ?_
      refine k_getI (D := RX3) (T := TX3) (N := 10) (ci := 1) (k := 8) C iCX3 ho1 (by decide) rfl (by decide) (iW1 _ (List.mem_of_getElem? (i := 18) rfl)) rfl (dk dX3_becomes_1 17 rfl) h (fun x15 h => ?_)
      refine k_putI (D := RX3) (T := TX3) (N := 10) (ci := 1) (k := 8) C iCX3 tyX3_ok nmX3 ho0 (by decide) rfl (by decide) (iW1 _ (List.mem_of_getElem? (i := 18) rfl)) rfl rfl flq1_8 flp1_8 (dk dX3_becomes_1 18 rfl) h (fun s16 h => ?_)
      refine k_aload_n C (dk dX3_becomes_1 19 rfl) rfl 0 rfl ?_
      refine k_aload_n C (dk dX3_becomes_1 20 rfl) rfl 1 rfl ?_
      refine k_getI (D := RX3) (T := TX3) (N := 10) (ci := 1) (k := 9) C iCX3 ho1 (by decide) rfl (by decide) (iW1 _ (List.mem_of_getElem? (i := 19) rfl)) rfl (dk dX3_becomes_1 21 rfl) h (fun x17 h => ?_)
      refine k_putI (D := RX3) (T := TX3) (N := 10) (ci := 1) (k := 9) C iCX3 tyX3_ok nmX3 ho0 (by decide) rfl (by decide) (iW1 _ (List.mem_of_getElem? (i := 19) rfl)) rfl rfl flq1_9 flp1_9 (dk dX3_becomes_1 22 rfl) h (fun s18 h => ?_)
      exact k_vret E (dk dX3_becomes_1 23 rfl) h
    ·
      refine k_aload_n C (dk dX3_becomes_0 5 rfl) rfl 0 rfl ?_
      refine k_getR (q := (o0 + 3)) (D := RX3) (T := TX3) (N := 10) (ci := 1) (k := 0) C iCX3 ho0 (by decide) rfl (by decide) (iW1 _ (List.mem_of_getElem? (i := 10) rfl)) rfl (dk dX3_becomes_0 6 rfl) ?_
      refine k_iload_n C (dk dX3_becomes_0 7 rfl) rfl 2 rfl ?_
      refine k_aload_n C (dk dX3_becomes_0 8 rfl) rfl 1 rfl ?_
      refine k_getR (q := (o1 + 3)) (D := RX3) (T := TX3) (N := 10) (ci := 1) (k := 0) C iCX3 ho1 (by decide) rfl (by decide) (iW1 _ (List.mem_of_getElem? (i := 10) rfl)) rfl (dk dX3_becomes_0 9 rfl) ?_
      refine k_iload_n C (dk dX3_becomes_0 10 rfl) rfl 2 rfl ?_
      refine k_iald C (kd_L3 ho1) (ln_L3 ho1) (dk dX3_becomes_0 11 rfl) h (fun x19 h => ?_)
      refine k_iast C (kd_L3 ho0) (ln_L3 ho0) (dk dX3_becomes_0 12 rfl) h (fun s20 h => ?_)
      refine k_aload_n C (dk dX3_becomes_0 13 rfl) rfl 0 rfl ?_
      refine k_getR (q := (o0 + 6)) (D := RX3) (T := TX3) (N := 10) (ci := 1) (k := 1) C iCX3 ho0 (by decide) rfl (by decide) (iW1 _ (List.mem_of_getElem? (i := 11) rfl)) rfl (dk dX3_becomes_0 14 rfl) ?_
      refine k_iload_n C (dk dX3_becomes_0 15 rfl) rfl 2 rfl ?_
      refine k_aload_n C (dk dX3_becomes_0 16 rfl) rfl 1 rfl ?_
      refine k_getR (q := (o1 + 6)) (D := RX3) (T := TX3) (N := 10) (ci := 1) (k := 1) C iCX3 ho1 (by decide) rfl (by decide) (iW1 _ (List.mem_of_getElem? (i := 11) rfl)) rfl (dk dX3_becomes_0 17 rfl) ?_
      refine k_iload_n C (dk dX3_becomes_0 18 rfl) rfl 2 rfl ?_
      refine k_iald C (kd_L6 ho1) (ln_L6 ho1) (dk dX3_becomes_0 19 rfl) h (fun x21 h => ?_)
      refine k_iast C (kd_L6 ho0) (ln_L6 ho0) (dk dX3_becomes_0 20 rfl) h (fun s22 h => ?_)
      refine k_iinc (lv' := [(2, .int (y1 + 1)), (0, .ref (g.2.2 o0)), (1, .ref (g.2.2 o1))]) C (dk dX3_becomes_0 21 rfl) (j := 2) rfl rfl (by decide) rfl ?_
      refine k_goto (tgt := 2) C (dk dX3_becomes_0 22 rfl) (by decide) ?_
      refine k_sub C [1, 2, 0] rfl ?_
      exact hJ2 _ _ h
  ·
    refine k_sub C [1, 2, 0] rfl ?_
    exact hJ2 _ _ h
set_option maxRecDepth 100000 in
set_option maxHeartbeats 4000000 in
theorem qX3_kindAt (l : Launch) (g : G) (hg : gOK g) {o0 : Nat} {a1 : Int32} (ho0 : kd o0 = 1) {s0 σe : St} {v : Int32} (h : mX3_kindAt o0 a1 s0 = some (v, σe)) : Mc l g yX3_kindAt cX3_kindAt 2 (some .int) { frames := 1, cells := 0, slots := 0, locals := 21 } [.ref (g.2.2 o0), .int a1] s0 (some (.int v)) σe := by
  refine k_enter hg pnRX3 rfl (Nat.le_of_ble_eq_true rfl) ?_
  intro WK E
  have C := kX_y E
  unfold mX3_kindAt at h
  show WK 0 [(0, .ref (g.2.2 o0)), (1, .int a1)] [] s0
  refine k_iload_n C (dk dX3_kindAt_0 0 rfl) rfl 1 rfl ?_
  refine k_i2l C (dk dX3_kindAt_0 1 rfl) ?_
  refine cl2_k h (fun x2 s1 hc h => ?_)
  refine k_cn (As := [.long a1.toInt64]) (st := []) C (qX10_isCell l g hg hc) (iW5 _ (List.mem_of_getElem? (i := 21) rfl)) rfl rfl (List.mem_of_getElem? (i := 1) rfl) (iW5 _ (List.mem_of_getElem? (i := 20) rfl)) (iW0 _ (List.mem_of_getElem? (i := 2) rfl)) hdX10_isCell (by decide) rfl rfl (Nat.le_of_ble_eq_true rfl) (dk dX3_kindAt_0 2 rfl) ?_
  refine k_if_eq (tgt := 17) C (dk dX3_kindAt_0 3 rfl) (by decide) h (fun h => ?_) (fun h => ?_)
  ·
    refine k_iconst (v := (0 : Int32)) C (dk dX3_kindAt_0 9 rfl) (by decide) ?_
    exact k_iret E (dk dX3_kindAt_0 10 rfl) h
  ·
    refine k_aload_n C (dk dX3_kindAt_0 4 rfl) rfl 0 rfl ?_
    refine k_getR (q := (o0 + 3)) (D := RX3) (T := TX3) (N := 10) (ci := 1) (k := 0) C iCX3 ho0 (by decide) rfl (by decide) (iW1 _ (List.mem_of_getElem? (i := 10) rfl)) rfl (dk dX3_kindAt_0 5 rfl) ?_
    refine k_iload_n C (dk dX3_kindAt_0 6 rfl) rfl 1 rfl ?_
    refine k_iald C (kd_L3 ho0) (ln_L3 ho0) (dk dX3_kindAt_0 7 rfl) h (fun x3 h => ?_)
    refine k_goto (tgt := 18) C (dk dX3_kindAt_0 8 rfl) (by decide) ?_
    exact k_iret E (dk dX3_kindAt_0 10 rfl) h
set_option maxRecDepth 100000 in
set_option maxHeartbeats 4000000 in
theorem qX3_figureAt (l : Launch) (g : G) (hg : gOK g) {o0 : Nat} {a1 : Int32} (ho0 : kd o0 = 1) {s0 σe : St} {v : Int32} (h : mX3_figureAt o0 a1 s0 = some (v, σe)) : Mc l g yX3_figureAt cX3_figureAt 2 (some .int) { frames := 1, cells := 0, slots := 0, locals := 21 } [.ref (g.2.2 o0), .int a1] s0 (some (.int v)) σe := by
  refine k_enter hg pnRX3 rfl (Nat.le_of_ble_eq_true rfl) ?_
  intro WK E
  have C := kX_y E
  unfold mX3_figureAt at h
  show WK 0 [(0, .ref (g.2.2 o0)), (1, .int a1)] [] s0
  refine k_iload_n C (dk dX3_figureAt_0 0 rfl) rfl 1 rfl ?_
  refine k_i2l C (dk dX3_figureAt_0 1 rfl) ?_
  refine cl2_k h (fun x2 s1 hc h => ?_)
  refine k_cn (As := [.long a1.toInt64]) (st := []) C (qX10_isCell l g hg hc) (iW5 _ (List.mem_of_getElem? (i := 21) rfl)) rfl rfl (List.mem_of_getElem? (i := 1) rfl) (iW5 _ (List.mem_of_getElem? (i := 20) rfl)) (iW0 _ (List.mem_of_getElem? (i := 2) rfl)) hdX10_isCell (by decide) rfl rfl (Nat.le_of_ble_eq_true rfl) (dk dX3_figureAt_0 2 rfl) ?_
  refine k_if_eq (tgt := 17) C (dk dX3_figureAt_0 3 rfl) (by decide) h (fun h => ?_) (fun h => ?_)
  ·
    refine k_iconst (v := (0 : Int32)) C (dk dX3_figureAt_0 9 rfl) (by decide) ?_
    exact k_iret E (dk dX3_figureAt_0 10 rfl) h
  ·
    refine k_aload_n C (dk dX3_figureAt_0 4 rfl) rfl 0 rfl ?_
    refine k_getR (q := (o0 + 6)) (D := RX3) (T := TX3) (N := 10) (ci := 1) (k := 1) C iCX3 ho0 (by decide) rfl (by decide) (iW1 _ (List.mem_of_getElem? (i := 11) rfl)) rfl (dk dX3_figureAt_0 5 rfl) ?_
    refine k_iload_n C (dk dX3_figureAt_0 6 rfl) rfl 1 rfl ?_
    refine k_iald C (kd_L6 ho0) (ln_L6 ho0) (dk dX3_figureAt_0 7 rfl) h (fun x3 h => ?_)
    refine k_goto (tgt := 18) C (dk dX3_figureAt_0 8 rfl) (by decide) ?_
    exact k_iret E (dk dX3_figureAt_0 10 rfl) h
set_option maxRecDepth 100000 in
set_option maxHeartbeats 4000000 in
theorem qX3_chanceAt (l : Launch) (g : G) (hg : gOK g) {o0 : Nat} {a1 : Int32} (ho0 : kd o0 = 1) {s0 σe : St} {v : Int32} (h : mX3_chanceAt o0 a1 s0 = some (v, σe)) : Mc l g yX3_chanceAt cX3_chanceAt 2 (some .int) { frames := 1, cells := 0, slots := 0, locals := 21 } [.ref (g.2.2 o0), .int a1] s0 (some (.int v)) σe := by
  refine k_enter hg pnRX3 rfl (Nat.le_of_ble_eq_true rfl) ?_
  intro WK E
  have C := kX_y E
  unfold mX3_chanceAt at h
  show WK 0 [(0, .ref (g.2.2 o0)), (1, .int a1)] [] s0
  refine k_iload_n C (dk dX3_chanceAt_0 0 rfl) rfl 1 rfl ?_
  refine k_i2l C (dk dX3_chanceAt_0 1 rfl) ?_
  refine cl2_k h (fun x2 s1 hc h => ?_)
  refine k_cn (As := [.long a1.toInt64]) (st := []) C (qX10_isCell l g hg hc) (iW5 _ (List.mem_of_getElem? (i := 21) rfl)) rfl rfl (List.mem_of_getElem? (i := 1) rfl) (iW5 _ (List.mem_of_getElem? (i := 20) rfl)) (iW0 _ (List.mem_of_getElem? (i := 2) rfl)) hdX10_isCell (by decide) rfl rfl (Nat.le_of_ble_eq_true rfl) (dk dX3_chanceAt_0 2 rfl) ?_
  refine k_if_eq (tgt := 26) C (dk dX3_chanceAt_0 3 rfl) (by decide) h (fun h => ?_) (fun h => ?_)
  ·
    refine k_iconst (v := (0 : Int32)) C (dk dX3_chanceAt_0 14 rfl) (by decide) ?_
    exact k_iret E (dk dX3_chanceAt_0 15 rfl) h
  ·
    refine k_aload_n C (dk dX3_chanceAt_0 4 rfl) rfl 0 rfl ?_
    refine k_getR (q := (o0 + 3)) (D := RX3) (T := TX3) (N := 10) (ci := 1) (k := 0) C iCX3 ho0 (by decide) rfl (by decide) (iW1 _ (List.mem_of_getElem? (i := 10) rfl)) rfl (dk dX3_chanceAt_0 5 rfl) ?_
    refine k_iload_n C (dk dX3_chanceAt_0 6 rfl) rfl 1 rfl ?_
    refine k_iald C (kd_L3 ho0) (ln_L3 ho0) (dk dX3_chanceAt_0 7 rfl) h (fun x3 h => ?_)
    refine k_aload_n C (dk dX3_chanceAt_0 8 rfl) rfl 0 rfl ?_
    refine k_getR (q := (o0 + 6)) (D := RX3) (T := TX3) (N := 10) (ci := 1) (k := 1) C iCX3 ho0 (by decide) rfl (by decide) (iW1 _ (List.mem_of_getElem? (i := 11) rfl)) rfl (dk dX3_chanceAt_0 9 rfl) ?_
    refine k_iload_n C (dk dX3_chanceAt_0 10 rfl) rfl 1 rfl ?_
    refine k_iald C (kd_L6 ho0) (ln_L6 ho0) (dk dX3_chanceAt_0 11 rfl) h (fun x4 h => ?_)
    refine cl2_k h (fun x6 s5 hc h => ?_)
    refine k_cs (As := [.int x3, .int x4]) (st := []) C (qX2_chanceOf l g hg hc) (iW11 _ (List.mem_of_getElem? (i := 14) rfl)) (iW11 _ (List.mem_of_getElem? (i := 15) rfl)) (iW5 _ (List.mem_of_getElem? (i := 18) rfl)) (iW11 _ (List.mem_of_getElem? (i := 16) rfl)) rfl rfl hdX2_chanceOf (by decide) rfl rfl (Nat.le_of_ble_eq_true rfl) (dk dX3_chanceAt_0 12 rfl) ?_
    refine k_goto (tgt := 27) C (dk dX3_chanceAt_0 13 rfl) (by decide) ?_
    exact k_iret E (dk dX3_chanceAt_0 15 rfl) h
set_option maxRecDepth 100000 in
set_option maxHeartbeats 4000000 in
theorem qX3_sureCells (l : Launch) (g : G) (hg : gOK g) {o0 : Nat} (ho0 : kd o0 = 1) {s0 σe : St} {v : Int64} (h : mX3_sureCells o0 s0 = some (v, σe)) : Mc l g yX3_sureCells cX3_sureCells 4 (some .long) { frames := 2, cells := 0, slots := 0, locals := 42 } [.ref (g.2.2 o0)] s0 (some (.long v)) σe := by
  refine k_enter hg pnRX3 rfl (Nat.le_of_ble_eq_true rfl) ?_
  intro WK E
  have C := kX_y E
  unfold mX3_sureCells at h
  show WK 0 [(0, .ref (g.2.2 o0))] [] s0
  refine k_lconst (v := (0 : Int64)) C (dk dX3_sureCells_0 0 rfl) (by decide) ?_
  refine k_lstore_n (lv' := [(1, .long (0 : Int64)), (0, .ref (g.2.2 o0))]) C (dk dX3_sureCells_0 1 rfl) rfl (by decide) rfl ?_
  refine k_iconst (v := (0 : Int32)) C (dk dX3_sureCells_0 2 rfl) (by decide) ?_
  refine k_istore_n (lv' := [(3, .int (0 : Int32)), (1, .long (0 : Int64)), (0, .ref (g.2.2 o0))]) C (dk dX3_sureCells_0 3 rfl) rfl (by decide) rfl ?_
  refine kl_L (P := (fun J4 => ∀ (y1 : Int64) (y2 : Int32) (s3 : St), J4 y1 y2 s3 = some (v, σe) → WK 4 [(0, .ref (g.2.2 o0)), (1, .long y1), (3, .int y2)] [] s3)) h (fun _ _ _ h => nomatch h) (fun J4 hJ4 y1 y2 s3 h => ?_) (fun J4 hJ4 h => ?_)
  ·
    unfold mX3_sureCells_4 at h
    refine k_iload_n C (dk dX3_sureCells_0 4 rfl) rfl 2 rfl ?_
    refine k_bipush (v := (36 : Int32)) C (dk dX3_sureCells_0 5 rfl) (by decide) ?_
    refine k_icmp_ge (tgt := 33) C (dk dX3_sureCells_0 6 rfl) (by decide) h (fun h => ?_) (fun h => ?_)
    ·
      refine k_lload_n C (dk dX3_sureCells_0 19 rfl) rfl 1 rfl ?_
      exact k_lret E (dk dX3_sureCells_0 20 rfl) h
    ·
      refine k_aload_n C (dk dX3_sureCells_0 7 rfl) rfl 0 rfl ?_
      refine k_iload_n C (dk dX3_sureCells_0 8 rfl) rfl 2 rfl ?_
      refine cl2_k h (fun x5 s4 hc h => ?_)
      refine k_cv (T := TX3) (N := 10) (ci := 1) (ob := o0) (As := [.int y2]) (st := []) C (qX3_chanceAt l g hg ho0 hc) (iW30 _ (List.mem_of_getElem? (i := 3) rfl)) (iW11 _ (List.mem_of_getElem? (i := 11) rfl)) (iW11 _ (List.mem_of_getElem? (i := 12) rfl)) (iW0 _ (List.mem_of_getElem? (i := 15) rfl)) (iW11 _ (List.mem_of_getElem? (i := 13) rfl)) rfl rfl hdX3_chanceAt (by decide) ho0 (by decide) rfl rfl rfl (Nat.le_of_ble_eq_true rfl) (dk dX3_sureCells_0 9 rfl) ?_
      refine k_bipush (v := (10 : Int32)) C (dk dX3_sureCells_0 10 rfl) (by decide) ?_
      refine kl_J (P := (fun J27 => ∀ (y6 : Int64) (y7 : Int32) (s8 : St), J27 y6 y7 s8 = some (v, σe) → WK 27 [(0, .ref (g.2.2 o0)), (1, .long y6), (3, .int y7)] [] s8)) h (fun y6 y7 s8 h => ?_) (fun J27 hJ27 h => ?_)
      ·
        unfold mX3_sureCells_27 at h
        refine k_iinc (lv' := [(3, .int (y7 + 1)), (0, .ref (g.2.2 o0)), (1, .long y6)]) C (dk dX3_sureCells_0 17 rfl) (j := 2) rfl rfl (by decide) rfl ?_
        refine k_goto (tgt := 4) C (dk dX3_sureCells_0 18 rfl) (by decide) ?_
        refine k_sub C [1, 2, 0] rfl ?_
        exact hJ4 _ _ _ h
      ·
        refine k_icmp_ne (tgt := 27) C (dk dX3_sureCells_0 11 rfl) (by decide) h (fun h => ?_) (fun h => ?_)
        ·
          exact hJ27 _ _ _ h
        ·
          refine k_lload_n C (dk dX3_sureCells_0 12 rfl) rfl 1 rfl ?_
          refine k_iload_n C (dk dX3_sureCells_0 13 rfl) rfl 2 rfl ?_
          refine cl2_k h (fun x10 s9 hc h => ?_)
          refine k_cs (As := [.int y2]) (st := [.long y1]) C (qX7_bit l g hg hc) (iW14 _ (List.mem_of_getElem? (i := 14) rfl)) (iW14 _ (List.mem_of_getElem? (i := 15) rfl)) (iW7 _ (List.mem_of_getElem? (i := 4) rfl)) (iW14 _ (List.mem_of_getElem? (i := 16) rfl)) rfl rfl hdX7_bit (by decide) rfl rfl (Nat.le_of_ble_eq_true rfl) (dk dX3_sureCells_0 14 rfl) ?_
          refine k_lor C (dk dX3_sureCells_0 15 rfl) ?_
          refine nmL h (fun x11 h => ?_)
          refine k_lstore_n (lv' := [(1, .long x11), (0, .ref (g.2.2 o0)), (3, .int y2)]) C (dk dX3_sureCells_0 16 rfl) rfl (by decide) rfl ?_
          refine k_sub C [1, 0, 2] rfl ?_
          exact hJ27 _ _ _ h
  ·
    refine k_sub C [2, 1, 0] rfl ?_
    exact hJ4 _ _ _ h
set_option maxRecDepth 100000 in
set_option maxHeartbeats 4000000 in
theorem qX3_unsureCells (l : Launch) (g : G) (hg : gOK g) {o0 : Nat} (ho0 : kd o0 = 1) {s0 σe : St} {v : Int64} (h : mX3_unsureCells o0 s0 = some (v, σe)) : Mc l g yX3_unsureCells cX3_unsureCells 4 (some .long) { frames := 2, cells := 0, slots := 0, locals := 42 } [.ref (g.2.2 o0)] s0 (some (.long v)) σe := by
  refine k_enter hg pnRX3 rfl (Nat.le_of_ble_eq_true rfl) ?_
  intro WK E
  have C := kX_y E
  unfold mX3_unsureCells at h
  show WK 0 [(0, .ref (g.2.2 o0))] [] s0
  refine k_lconst (v := (0 : Int64)) C (dk dX3_unsureCells_0 0 rfl) (by decide) ?_
  refine k_lstore_n (lv' := [(1, .long (0 : Int64)), (0, .ref (g.2.2 o0))]) C (dk dX3_unsureCells_0 1 rfl) rfl (by decide) rfl ?_
  refine k_iconst (v := (0 : Int32)) C (dk dX3_unsureCells_0 2 rfl) (by decide) ?_
  refine k_istore_n (lv' := [(3, .int (0 : Int32)), (1, .long (0 : Int64)), (0, .ref (g.2.2 o0))]) C (dk dX3_unsureCells_0 3 rfl) rfl (by decide) rfl ?_
  refine kl_L (P := (fun J4 => ∀ (y1 : Int64) (y2 : Int32) (s3 : St), J4 y1 y2 s3 = some (v, σe) → WK 4 [(0, .ref (g.2.2 o0)), (1, .long y1), (3, .int y2)] [] s3)) h (fun _ _ _ h => nomatch h) (fun J4 hJ4 y1 y2 s3 h => ?_) (fun J4 hJ4 h => ?_)
  ·
    unfold mX3_unsureCells_4 at h
    refine k_iload_n C (dk dX3_unsureCells_0 4 rfl) rfl 2 rfl ?_
    refine k_bipush (v := (36 : Int32)) C (dk dX3_unsureCells_0 5 rfl) (by decide) ?_
    refine k_icmp_ge (tgt := 41) C (dk dX3_unsureCells_0 6 rfl) (by decide) h (fun h => ?_) (fun h => ?_)
    ·
      refine k_lload_n C (dk dX3_unsureCells_0 23 rfl) rfl 1 rfl ?_
      exact k_lret E (dk dX3_unsureCells_0 24 rfl) h
    ·
      refine k_aload_n C (dk dX3_unsureCells_0 7 rfl) rfl 0 rfl ?_
      refine k_iload_n C (dk dX3_unsureCells_0 8 rfl) rfl 2 rfl ?_
      refine cl2_k h (fun x5 s4 hc h => ?_)
      refine k_cv (T := TX3) (N := 10) (ci := 1) (ob := o0) (As := [.int y2]) (st := []) C (qX3_chanceAt l g hg ho0 hc) (iW30 _ (List.mem_of_getElem? (i := 3) rfl)) (iW11 _ (List.mem_of_getElem? (i := 11) rfl)) (iW11 _ (List.mem_of_getElem? (i := 12) rfl)) (iW0 _ (List.mem_of_getElem? (i := 15) rfl)) (iW11 _ (List.mem_of_getElem? (i := 13) rfl)) rfl rfl hdX3_chanceAt (by decide) ho0 (by decide) rfl rfl rfl (Nat.le_of_ble_eq_true rfl) (dk dX3_unsureCells_0 9 rfl) ?_
      refine kl_J (P := (fun J35 => ∀ (y6 : Int64) (y7 : Int32) (s8 : St), J35 y6 y7 s8 = some (v, σe) → WK 35 [(0, .ref (g.2.2 o0)), (1, .long y6), (3, .int y7)] [] s8)) h (fun y6 y7 s8 h => ?_) (fun J35 hJ35 h => ?_)
      ·
        unfold mX3_unsureCells_35 at h
        refine k_iinc (lv' := [(3, .int (y7 + 1)), (0, .ref (g.2.2 o0)), (1, .long y6)]) C (dk dX3_unsureCells_0 21 rfl) (j := 2) rfl rfl (by decide) rfl ?_
        refine k_goto (tgt := 4) C (dk dX3_unsureCells_0 22 rfl) (by decide) ?_
        refine k_sub C [1, 2, 0] rfl ?_
        exact hJ4 _ _ _ h
      ·
        refine k_if_le (tgt := 35) C (dk dX3_unsureCells_0 10 rfl) (by decide) h (fun h => ?_) (fun h => ?_)
        ·
          exact hJ35 _ _ _ h
        ·
          refine k_aload_n C (dk dX3_unsureCells_0 11 rfl) rfl 0 rfl ?_
          refine k_iload_n C (dk dX3_unsureCells_0 12 rfl) rfl 2 rfl ?_
          refine cl2_k h (fun x10 s9 hc h => ?_)
          refine k_cv (T := TX3) (N := 10) (ci := 1) (ob := o0) (As := [.int y2]) (st := []) C (qX3_chanceAt l g hg ho0 hc) (iW30 _ (List.mem_of_getElem? (i := 3) rfl)) (iW11 _ (List.mem_of_getElem? (i := 11) rfl)) (iW11 _ (List.mem_of_getElem? (i := 12) rfl)) (iW0 _ (List.mem_of_getElem? (i := 15) rfl)) (iW11 _ (List.mem_of_getElem? (i := 13) rfl)) rfl rfl hdX3_chanceAt (by decide) ho0 (by decide) rfl rfl rfl (Nat.le_of_ble_eq_true rfl) (dk dX3_unsureCells_0 13 rfl) ?_
          refine k_bipush (v := (10 : Int32)) C (dk dX3_unsureCells_0 14 rfl) (by decide) ?_
          refine k_icmp_ge (tgt := 35) C (dk dX3_unsureCells_0 15 rfl) (by decide) h (fun h => ?_) (fun h => ?_)
          ·
            exact hJ35 _ _ _ h
          ·
            refine k_lload_n C (dk dX3_unsureCells_0 16 rfl) rfl 1 rfl ?_
            refine k_iload_n C (dk dX3_unsureCells_0 17 rfl) rfl 2 rfl ?_
            refine cl2_k h (fun x12 s11 hc h => ?_)
            refine k_cs (As := [.int y2]) (st := [.long y1]) C (qX7_bit l g hg hc) (iW14 _ (List.mem_of_getElem? (i := 14) rfl)) (iW14 _ (List.mem_of_getElem? (i := 15) rfl)) (iW7 _ (List.mem_of_getElem? (i := 4) rfl)) (iW14 _ (List.mem_of_getElem? (i := 16) rfl)) rfl rfl hdX7_bit (by decide) rfl rfl (Nat.le_of_ble_eq_true rfl) (dk dX3_unsureCells_0 18 rfl) ?_
            refine k_lor C (dk dX3_unsureCells_0 19 rfl) ?_
            refine nmL h (fun x13 h => ?_)
            refine k_lstore_n (lv' := [(1, .long x13), (0, .ref (g.2.2 o0)), (3, .int y2)]) C (dk dX3_unsureCells_0 20 rfl) rfl (by decide) rfl ?_
            refine k_sub C [1, 0, 2] rfl ?_
            exact hJ35 _ _ _ h
  ·
    refine k_sub C [2, 1, 0] rfl ?_
    exact hJ4 _ _ _ h
set_option maxRecDepth 100000 in
set_option maxHeartbeats 4000000 in
theorem qX3_bothStand (l : Launch) (g : G) (hg : gOK g) {o0 : Nat} (ho0 : kd o0 = 1) {s0 σe : St} {v : Int32} (h : mX3_bothStand o0 s0 = some (v, σe)) : Mc l g yX3_bothStand cX3_bothStand 1 (some .boolean) { frames := 0, cells := 0, slots := 0, locals := 0 } [.ref (g.2.2 o0)] s0 (some (.int v)) σe := by
  refine k_enter hg pnRX3 rfl (Nat.le_of_ble_eq_true rfl) ?_
  intro WK E
  have C := kX_y E
  unfold mX3_bothStand at h
  show WK 0 [(0, .ref (g.2.2 o0))] [] s0
  refine k_aload_n C (dk dX3_bothStand_0 0 rfl) rfl 0 rfl ?_
  refine k_getI (D := RX3) (T := TX3) (N := 10) (ci := 1) (k := 5) C iCX3 ho0 (by decide) rfl (by decide) (iW1 _ (List.mem_of_getElem? (i := 15) rfl)) rfl (dk dX3_bothStand_0 1 rfl) h (fun x1 h => ?_)
  refine k_bipush (v := (-4 : Int32)) C (dk dX3_bothStand_0 2 rfl) (by decide) ?_
  refine k_icmp_eq (tgt := 22) C (dk dX3_bothStand_0 3 rfl) (by decide) h (fun h => ?_) (fun h => ?_)
  ·
    refine k_iconst (v := (0 : Int32)) C (dk dX3_bothStand_0 10 rfl) (by decide) ?_
    exact k_zret E (dk dX3_bothStand_0 11 rfl) h
  ·
    refine k_aload_n C (dk dX3_bothStand_0 4 rfl) rfl 0 rfl ?_
    refine k_getI (D := RX3) (T := TX3) (N := 10) (ci := 1) (k := 6) C iCX3 ho0 (by decide) rfl (by decide) (iW1 _ (List.mem_of_getElem? (i := 16) rfl)) rfl (dk dX3_bothStand_0 5 rfl) h (fun x2 h => ?_)
    refine k_bipush (v := (-4 : Int32)) C (dk dX3_bothStand_0 6 rfl) (by decide) ?_
    refine k_icmp_eq (tgt := 22) C (dk dX3_bothStand_0 7 rfl) (by decide) h (fun h => ?_) (fun h => ?_)
    ·
      refine k_iconst (v := (0 : Int32)) C (dk dX3_bothStand_0 10 rfl) (by decide) ?_
      exact k_zret E (dk dX3_bothStand_0 11 rfl) h
    ·
      refine k_iconst (v := (1 : Int32)) C (dk dX3_bothStand_0 8 rfl) (by decide) ?_
      refine k_goto (tgt := 23) C (dk dX3_bothStand_0 9 rfl) (by decide) ?_
      exact k_zret E (dk dX3_bothStand_0 11 rfl) h
set_option maxRecDepth 100000 in
set_option maxHeartbeats 4000000 in
theorem qX3_farBetween (l : Launch) (g : G) (hg : gOK g) {o0 : Nat} {a1 : Int32} {a2 : Int32} (ho0 : kd o0 = 1) {s0 σe : St} {v : Int32} (h : mX3_farBetween o0 a1 a2 s0 = some (v, σe)) : Mc l g yX3_farBetween cX3_farBetween 3 (some .int) { frames := 2, cells := 0, slots := 0, locals := 45 } [.ref (g.2.2 o0), .int a1, .int a2] s0 (some (.int v)) σe := by
  refine k_enter hg pnRX3 rfl (Nat.le_of_ble_eq_true rfl) ?_
  intro WK E
  have C := kX_y E
  unfold mX3_farBetween at h
  show WK 0 [(0, .ref (g.2.2 o0)), (1, .int a1), (2, .int a2)] [] s0
  refine k_iload_n C (dk dX3_farBetween_0 0 rfl) rfl 1 rfl ?_
  refine k_iload_n C (dk dX3_farBetween_0 1 rfl) rfl 2 rfl ?_
  refine cl2_k h (fun x2 s1 hc h => ?_)
  refine k_cs (As := [.int a1, .int a2]) (st := []) C (qX7_apart l g hg hc) (iW7 _ (List.mem_of_getElem? (i := 19) rfl)) (iW7 _ (List.mem_of_getElem? (i := 20) rfl)) (iW7 _ (List.mem_of_getElem? (i := 4) rfl)) (iW7 _ (List.mem_of_getElem? (i := 21) rfl)) rfl rfl hdX7_apart (by decide) rfl rfl (Nat.le_of_ble_eq_true rfl) (dk dX3_farBetween_0 2 rfl) ?_
  refine k_aload_n C (dk dX3_farBetween_0 3 rfl) rfl 0 rfl ?_
  refine k_iload_n C (dk dX3_farBetween_0 4 rfl) rfl 1 rfl ?_
  refine cl2_k h (fun x4 s3 hc h => ?_)
  refine k_cv (T := TX3) (N := 10) (ci := 1) (ob := o0) (As := [.int a1]) (st := [.int x2]) C (qX3_heightAt l g hg ho0 hc) (iW7 _ (List.mem_of_getElem? (i := 23) rfl)) (iW7 _ (List.mem_of_getElem? (i := 24) rfl)) (iW7 _ (List.mem_of_getElem? (i := 25) rfl)) (iW0 _ (List.mem_of_getElem? (i := 15) rfl)) (iW7 _ (List.mem_of_getElem? (i := 26) rfl)) rfl rfl hdX3_heightAt (by decide) ho0 (by decide) rfl rfl rfl (Nat.le_of_ble_eq_true rfl) (dk dX3_farBetween_0 5 rfl) ?_
  refine k_aload_n C (dk dX3_farBetween_0 6 rfl) rfl 0 rfl ?_
  refine k_iload_n C (dk dX3_farBetween_0 7 rfl) rfl 2 rfl ?_
  refine cl2_k h (fun x6 s5 hc h => ?_)
  refine k_cv (T := TX3) (N := 10) (ci := 1) (ob := o0) (As := [.int a2]) (st := [.int x4, .int x2]) C (qX3_heightAt l g hg ho0 hc) (iW7 _ (List.mem_of_getElem? (i := 23) rfl)) (iW7 _ (List.mem_of_getElem? (i := 24) rfl)) (iW7 _ (List.mem_of_getElem? (i := 25) rfl)) (iW0 _ (List.mem_of_getElem? (i := 15) rfl)) (iW7 _ (List.mem_of_getElem? (i := 26) rfl)) rfl rfl hdX3_heightAt (by decide) ho0 (by decide) rfl rfl rfl (Nat.le_of_ble_eq_true rfl) (dk dX3_farBetween_0 8 rfl) ?_
  refine k_isub C (dk dX3_farBetween_0 9 rfl) ?_
  refine k_mabs C (iW7 _ (List.mem_of_getElem? (i := 15) rfl)) (iW7 _ (List.mem_of_getElem? (i := 16) rfl)) (iW7 _ (List.mem_of_getElem? (i := 17) rfl)) (iW7 _ (List.mem_of_getElem? (i := 18) rfl)) (Nat.le_of_ble_eq_true rfl) (Nat.le_of_ble_eq_true rfl) (dk dX3_farBetween_0 10 rfl) ?_
  refine k_iconst (v := (2 : Int32)) C (dk dX3_farBetween_0 11 rfl) (by decide) ?_
  refine k_idiv C (dk dX3_farBetween_0 12 rfl) (by decide) ?_
  refine k_iadd C (dk dX3_farBetween_0 13 rfl) ?_
  exact k_iret E (dk dX3_farBetween_0 14 rfl) h
set_option maxRecDepth 100000 in
set_option maxHeartbeats 4000000 in
theorem qX3_layAt (l : Launch) (g : G) (hg : gOK g) {o0 : Nat} {a1 : Int32} {a2 : Int32} {a3 : Int32} (ho0 : kd o0 = 1) {s0 σe : St} (h : mX3_layAt o0 a1 a2 a3 s0 = some σe) : Mc l g yX3_layAt cX3_layAt 4 none { frames := 1, cells := 0, slots := 0, locals := 21 } [.ref (g.2.2 o0), .int a1, .int a2, .int a3] s0 none σe := by
  refine k_enter hg pnRX3 rfl (Nat.le_of_ble_eq_true rfl) ?_
  intro WK E
  have C := kX_y E
  unfold mX3_layAt at h
  show WK 0 [(0, .ref (g.2.2 o0)), (1, .int a1), (2, .int a2), (3, .int a3)] [] s0
  refine k_iload_n C (dk dX3_layAt_0 0 rfl) rfl 1 rfl ?_
  refine k_i2l C (dk dX3_layAt_0 1 rfl) ?_
  refine cl2_k h (fun x2 s1 hc h => ?_)
  refine k_cn (As := [.long a1.toInt64]) (st := []) C (qX10_isCell l g hg hc) (iW5 _ (List.mem_of_getElem? (i := 21) rfl)) rfl rfl (List.mem_of_getElem? (i := 1) rfl) (iW5 _ (List.mem_of_getElem? (i := 20) rfl)) (iW0 _ (List.mem_of_getElem? (i := 2) rfl)) hdX10_isCell (by decide) rfl rfl (Nat.le_of_ble_eq_true rfl) (dk dX3_layAt_0 2 rfl) ?_
  refine k_if_eq (tgt := 22) C (dk dX3_layAt_0 3 rfl) (by decide) h (fun h => ?_) (fun h => ?_)
  ·
    exact k_vret E (dk dX3_layAt_0 14 rfl) h
  ·
    refine k_aload_n C (dk dX3_layAt_0 4 rfl) rfl 0 rfl ?_
    refine k_getR (q := (o0 + 3)) (D := RX3) (T := TX3) (N := 10) (ci := 1) (k := 0) C iCX3 ho0 (by decide) rfl (by decide) (iW1 _ (List.mem_of_getElem? (i := 10) rfl)) rfl (dk dX3_layAt_0 5 rfl) ?_
    refine k_iload_n C (dk dX3_layAt_0 6 rfl) rfl 1 rfl ?_
    refine k_iload_n C (dk dX3_layAt_0 7 rfl) rfl 2 rfl ?_
    refine k_iast C (kd_L3 ho0) (ln_L3 ho0) (dk dX3_layAt_0 8 rfl) h (fun s3 h => ?_)
    refine k_aload_n C (dk dX3_layAt_0 9 rfl) rfl 0 rfl ?_
    refine k_getR (q := (o0 + 6)) (D := RX3) (T := TX3) (N := 10) (ci := 1) (k := 1) C iCX3 ho0 (by decide) rfl (by decide) (iW1 _ (List.mem_of_getElem? (i := 11) rfl)) rfl (dk dX3_layAt_0 10 rfl) ?_
    refine k_iload_n C (dk dX3_layAt_0 11 rfl) rfl 1 rfl ?_
    refine k_iload_n C (dk dX3_layAt_0 12 rfl) rfl 3 rfl ?_
    refine k_iast C (kd_L6 ho0) (ln_L6 ho0) (dk dX3_layAt_0 13 rfl) h (fun s4 h => ?_)
    exact k_vret E (dk dX3_layAt_0 14 rfl) h
set_option maxRecDepth 100000 in
set_option maxHeartbeats 4000000 in
theorem qX3_place (l : Launch) (g : G) (hg : gOK g) {o0 : Nat} {a1 : Int32} {a2 : Int32} (ho0 : kd o0 = 1) {s0 σe : St} (h : mX3_place o0 a1 a2 s0 = some σe) : Mc l g yX3_place cX3_place 3 none { frames := 0, cells := 0, slots := 0, locals := 0 } [.ref (g.2.2 o0), .int a1, .int a2] s0 none σe := by
  refine k_enter hg pnRX3 rfl (Nat.le_of_ble_eq_true rfl) ?_
  intro WK E
  have C := kX_y E
  unfold mX3_place at h
  show WK 0 [(0, .ref (g.2.2 o0)), (1, .int a1), (2, .int a2)] [] s0
  refine k_iload_n C (dk dX3_place_0 0 rfl) rfl 1 rfl ?_
  refine k_if_ne (tgt := 12) C (dk dX3_place_0 1 rfl) (by decide) h (fun h => ?_) (fun h => ?_)
  ·
    refine k_aload_n C (dk dX3_place_0 6 rfl) rfl 0 rfl ?_
    refine k_iload_n C (dk dX3_place_0 7 rfl) rfl 2 rfl ?_
    refine k_putI (D := RX3) (T := TX3) (N := 10) (ci := 1) (k := 6) C iCX3 tyX3_ok nmX3 ho0 (by decide) rfl (by decide) (iW1 _ (List.mem_of_getElem? (i := 16) rfl)) rfl rfl flq1_6 flp1_6 (dk dX3_place_0 8 rfl) h (fun s1 h => ?_)
    exact k_vret E (dk dX3_place_0 9 rfl) h
  ·
    refine k_aload_n C (dk dX3_place_0 2 rfl) rfl 0 rfl ?_
    refine k_iload_n C (dk dX3_place_0 3 rfl) rfl 2 rfl ?_
    refine k_putI (D := RX3) (T := TX3) (N := 10) (ci := 1) (k := 5) C iCX3 tyX3_ok nmX3 ho0 (by decide) rfl (by decide) (iW1 _ (List.mem_of_getElem? (i := 15) rfl)) rfl rfl flq1_5 flp1_5 (dk dX3_place_0 4 rfl) h (fun s2 h => ?_)
    refine k_goto (tgt := 17) C (dk dX3_place_0 5 rfl) (by decide) ?_
    exact k_vret E (dk dX3_place_0 9 rfl) h
set_option maxRecDepth 100000 in
set_option maxHeartbeats 4000000 in
theorem qX3_cellBy (l : Launch) (g : G) (hg : gOK g) {o0 : Nat} {a1 : Int32} {a2 : Int32} (ho0 : kd o0 = 1) {s0 σe : St} {v : Int32} (h : mX3_cellBy o0 a1 a2 s0 = some (v, σe)) : Mc l g yX3_cellBy cX3_cellBy 4 (some .int) { frames := 2, cells := 0, slots := 0, locals := 43 } [.ref (g.2.2 o0), .int a1, .int a2] s0 (some (.int v)) σe := by
  refine k_enter hg pnRX3 rfl (Nat.le_of_ble_eq_true rfl) ?_
  intro WK E
  have C := kX_y E
  unfold mX3_cellBy at h
  show WK 0 [(0, .ref (g.2.2 o0)), (1, .int a1), (2, .int a2)] [] s0
  refine k_iload_n C (dk dX3_cellBy_0 0 rfl) rfl 1 rfl ?_
  refine k_iload_n C (dk dX3_cellBy_0 1 rfl) rfl 2 rfl ?_
  refine cl2_k h (fun x2 s1 hc h => ?_)
  refine k_cs (As := [.int a1, .int a2]) (st := []) C (qX7_cellTo l g hg hc) (iW7 _ (List.mem_of_getElem? (i := 2) rfl)) (iW7 _ (List.mem_of_getElem? (i := 3) rfl)) (iW7 _ (List.mem_of_getElem? (i := 4) rfl)) (iW7 _ (List.mem_of_getElem? (i := 5) rfl)) rfl rfl hdX7_cellTo (by decide) rfl rfl (Nat.le_of_ble_eq_true rfl) (dk dX3_cellBy_0 2 rfl) ?_
  refine k_istore_n (lv' := [(3, .int x2), (0, .ref (g.2.2 o0)), (1, .int a1), (2, .int a2)]) C (dk dX3_cellBy_0 3 rfl) rfl (by decide) rfl ?_
  refine k_iload_n C (dk dX3_cellBy_0 4 rfl) rfl 3 rfl ?_
  refine kl_J (P := (fun J18 => ∀ (s3 : St), J18 s3 = some (v, σe) → WK 18 [(3, .int x2)] [] s3)) h (fun s3 h => ?_) (fun J18 hJ18 h => ?_)
  ·
    unfold mX3_cellBy_18 at h
    refine k_iload_n C (dk dX3_cellBy_0 10 rfl) rfl 0 rfl ?_
    refine k_goto (tgt := 24) C (dk dX3_cellBy_0 11 rfl) (by decide) ?_
    exact k_iret E (dk dX3_cellBy_0 13 rfl) h
  ·
    refine k_if_eq (tgt := 18) C (dk dX3_cellBy_0 5 rfl) (by decide) h (fun h => ?_) (fun h => ?_)
    ·
      refine k_sub C [0] rfl ?_
      exact hJ18 _ h
    ·
      refine k_aload_n C (dk dX3_cellBy_0 6 rfl) rfl 1 rfl ?_
      refine k_iload_n C (dk dX3_cellBy_0 7 rfl) rfl 0 rfl ?_
      refine cl2_k h (fun x5 s4 hc h => ?_)
      refine k_cv (T := TX3) (N := 10) (ci := 1) (ob := o0) (As := [.int x2]) (st := []) C (qX3_isOpen l g hg ho0 hc) (iW7 _ (List.mem_of_getElem? (i := 6) rfl)) (iW6 _ (List.mem_of_getElem? (i := 1) rfl)) (iW6 _ (List.mem_of_getElem? (i := 2) rfl)) (iW0 _ (List.mem_of_getElem? (i := 15) rfl)) (iW6 _ (List.mem_of_getElem? (i := 3) rfl)) rfl rfl hdX3_isOpen (by decide) ho0 (by decide) rfl rfl rfl (Nat.le_of_ble_eq_true rfl) (dk dX3_cellBy_0 8 rfl) ?_
      refine k_if_eq (tgt := 22) C (dk dX3_cellBy_0 9 rfl) (by decide) h (fun h => ?_) (fun h => ?_)
      ·
        refine k_bipush (v := (-4 : Int32)) C (dk dX3_cellBy_0 12 rfl) (by decide) ?_
        exact k_iret E (dk dX3_cellBy_0 13 rfl) h
      ·
        refine k_sub C [0] rfl ?_
        exact hJ18 _ h
set_option maxRecDepth 100000 in
set_option maxHeartbeats 4000000 in
theorem qX3_cellByOrStay (l : Launch) (g : G) (hg : gOK g) {o0 : Nat} {a1 : Int32} {a2 : Int32} (ho0 : kd o0 = 1) {s0 σe : St} {v : Int32} (h : mX3_cellByOrStay o0 a1 a2 s0 = some (v, σe)) : Mc l g yX3_cellByOrStay cX3_cellByOrStay 4 (some .int) { frames := 3, cells := 0, slots := 0, locals := 66 } [.ref (g.2.2 o0), .int a1, .int a2] s0 (some (.int v)) σe := by
  refine k_enter hg pnRX3 rfl (Nat.le_of_ble_eq_true rfl) ?_
  intro WK E
  have C := kX_y E
  unfold mX3_cellByOrStay at h
  show WK 0 [(0, .ref (g.2.2 o0)), (1, .int a1), (2, .int a2)] [] s0
  refine k_aload_n C (dk dX3_cellByOrStay_0 0 rfl) rfl 0 rfl ?_
  refine k_iload_n C (dk dX3_cellByOrStay_0 1 rfl) rfl 1 rfl ?_
  refine k_iload_n C (dk dX3_cellByOrStay_0 2 rfl) rfl 2 rfl ?_
  refine cl2_k h (fun x2 s1 hc h => ?_)
  refine k_cv (T := TX3) (N := 10) (ci := 1) (ob := o0) (As := [.int a1, .int a2]) (st := []) C (qX3_cellBy l g hg ho0 hc) (iW6 _ (List.mem_of_getElem? (i := 28) rfl)) (iW6 _ (List.mem_of_getElem? (i := 29) rfl)) (iW7 _ (List.mem_of_getElem? (i := 0) rfl)) (iW0 _ (List.mem_of_getElem? (i := 15) rfl)) (iW7 _ (List.mem_of_getElem? (i := 1) rfl)) rfl rfl hdX3_cellBy (by decide) ho0 (by decide) rfl rfl rfl (Nat.le_of_ble_eq_true rfl) (dk dX3_cellByOrStay_0 3 rfl) ?_
  refine k_istore_n (lv' := [(3, .int x2), (0, .ref (g.2.2 o0)), (1, .int a1), (2, .int a2)]) C (dk dX3_cellByOrStay_0 4 rfl) rfl (by decide) rfl ?_
  refine k_iload_n C (dk dX3_cellByOrStay_0 5 rfl) rfl 0 rfl ?_
  refine k_bipush (v := (-4 : Int32)) C (dk dX3_cellByOrStay_0 6 rfl) (by decide) ?_
  refine k_icmp_ne (tgt := 17) C (dk dX3_cellByOrStay_0 7 rfl) (by decide) h (fun h => ?_) (fun h => ?_)
  ·
    refine k_iload_n C (dk dX3_cellByOrStay_0 10 rfl) rfl 0 rfl ?_
    exact k_iret E (dk dX3_cellByOrStay_0 11 rfl) h
  ·
    refine k_iload_n C (dk dX3_cellByOrStay_0 8 rfl) rfl 2 rfl ?_
    refine k_goto (tgt := 18) C (dk dX3_cellByOrStay_0 9 rfl) (by decide) ?_
    exact k_iret E (dk dX3_cellByOrStay_0 11 rfl) h
set_option maxRecDepth 100000 in
set_option maxHeartbeats 4000000 in
theorem qX3_endDay (l : Launch) (g : G) (hg : gOK g) {o0 : Nat} {a1 : Int32} {a2 : Int32} (ho0 : kd o0 = 1) {s0 σe : St} (h : mX3_endDay o0 a1 a2 s0 = some σe) : Mc l g yX3_endDay cX3_endDay 4 none { frames := 3, cells := 0, slots := 0, locals := 67 } [.ref (g.2.2 o0), .int a1, .int a2] s0 none σe := by
  refine k_enter hg pnRX3 rfl (Nat.le_of_ble_eq_true rfl) ?_
  intro WK E
  have C := kX_y E
  unfold mX3_endDay at h
  show WK 0 [(0, .ref (g.2.2 o0)), (1, .int a1), (2, .int a2)] [] s0
  refine k_aload_n C (dk dX3_endDay_0 0 rfl) rfl 0 rfl ?_
  refine k_iload_n C (dk dX3_endDay_0 1 rfl) rfl 1 rfl ?_
  refine k_putI (D := RX3) (T := TX3) (N := 10) (ci := 1) (k := 5) C iCX3 tyX3_ok nmX3 ho0 (by decide) rfl (by decide) (iW1 _ (List.mem_of_getElem? (i := 15) rfl)) rfl rfl flq1_5 flp1_5 (dk dX3_endDay_0 2 rfl) h (fun s1 h => ?_)
  refine k_aload_n C (dk dX3_endDay_0 3 rfl) rfl 0 rfl ?_
  refine k_iload_n C (dk dX3_endDay_0 4 rfl) rfl 2 rfl ?_
  refine k_putI (D := RX3) (T := TX3) (N := 10) (ci := 1) (k := 6) C iCX3 tyX3_ok nmX3 ho0 (by decide) rfl (by decide) (iW1 _ (List.mem_of_getElem? (i := 16) rfl)) rfl rfl flq1_6 flp1_6 (dk dX3_endDay_0 5 rfl) h (fun s2 h => ?_)
  refine k_aload_n C (dk dX3_endDay_0 6 rfl) rfl 0 rfl ?_
  refine k_aload_n C (dk dX3_endDay_0 7 rfl) rfl 0 rfl ?_
  refine k_getI (D := RX3) (T := TX3) (N := 10) (ci := 1) (k := 5) C iCX3 ho0 (by decide) rfl (by decide) (iW1 _ (List.mem_of_getElem? (i := 15) rfl)) rfl (dk dX3_endDay_0 8 rfl) h (fun x3 h => ?_)
  refine k_aload_n C (dk dX3_endDay_0 9 rfl) rfl 0 rfl ?_
  refine k_getI (D := RX3) (T := TX3) (N := 10) (ci := 1) (k := 6) C iCX3 ho0 (by decide) rfl (by decide) (iW1 _ (List.mem_of_getElem? (i := 16) rfl)) rfl (dk dX3_endDay_0 10 rfl) h (fun x4 h => ?_)
  refine cl2_k h (fun x6 s5 hc h => ?_)
  refine k_cv (T := TX3) (N := 10) (ci := 1) (ob := o0) (As := [.int x3, .int x4]) (st := []) C (qX3_farBetween l g hg ho0 hc) (iW7 _ (List.mem_of_getElem? (i := 11) rfl)) (iW7 _ (List.mem_of_getElem? (i := 12) rfl)) (iW7 _ (List.mem_of_getElem? (i := 13) rfl)) (iW0 _ (List.mem_of_getElem? (i := 15) rfl)) (iW7 _ (List.mem_of_getElem? (i := 14) rfl)) rfl rfl hdX3_farBetween (by decide) ho0 (by decide) rfl rfl rfl (Nat.le_of_ble_eq_true rfl) (dk dX3_endDay_0 11 rfl) ?_
  refine k_istore_n (lv' := [(3, .int x6), (0, .ref (g.2.2 o0)), (1, .int a1), (2, .int a2)]) C (dk dX3_endDay_0 12 rfl) rfl (by decide) rfl ?_
  refine k_iload_n C (dk dX3_endDay_0 13 rfl) rfl 0 rfl ?_
  refine k_aload_n C (dk dX3_endDay_0 14 rfl) rfl 1 rfl ?_
  refine k_getI (D := RX3) (T := TX3) (N := 10) (ci := 1) (k := 3) C iCX3 ho0 (by decide) rfl (by decide) (iW1 _ (List.mem_of_getElem? (i := 13) rfl)) rfl (dk dX3_endDay_0 15 rfl) h (fun x7 h => ?_)
  refine kl_J (P := (fun J41 => ∀ (s8 : St), J41 s8 = some σe → WK 41 [(0, .ref (g.2.2 o0)), (3, .int x6)] [] s8)) h (fun s8 h => ?_) (fun J41 hJ41 h => ?_)
  ·
    unfold mX3_endDay_41 at h
    refine k_iload_n C (dk dX3_endDay_0 23 rfl) rfl 1 rfl ?_
    refine k_aload_n C (dk dX3_endDay_0 24 rfl) rfl 0 rfl ?_
    refine k_getI (D := RX3) (T := TX3) (N := 10) (ci := 1) (k := 4) C iCX3 ho0 (by decide) rfl (by decide) (iW1 _ (List.mem_of_getElem? (i := 14) rfl)) rfl (dk dX3_endDay_0 25 rfl) h (fun x9 h => ?_)
    refine k_icmp_le (tgt := 59) C (dk dX3_endDay_0 26 rfl) (by decide) h (fun h => ?_) (fun h => ?_)
    ·
      exact k_vret E (dk dX3_endDay_1 1 rfl) h
    ·
      refine k_aload_n C (dk dX3_endDay_0 27 rfl) rfl 0 rfl ?_
      refine k_dup C (dk dX3_endDay_0 28 rfl) rfl ?_
      refine k_getI (D := RX3) (T := TX3) (N := 10) (ci := 1) (k := 9) C iCX3 ho0 (by decide) rfl (by decide) (iW1 _ (List.mem_of_getElem? (i := 19) rfl)) rfl (dk dX3_endDay_0 29 rfl) h (fun x10 h => ?_)
      refine k_iconst (v := (1 : Int32)) C (dk dX3_endDay_0 30 rfl) (by decide) ?_
      refine k_iadd C (dk dX3_endDay_0 31 rfl) ?_
      refine k_putI (D := RX3) (T := TX3) (N := 10) (ci := 1) (k := 9) C iCX3 tyX3_ok nmX3 ho0 (by decide) rfl (by decide) (iW1 _ (List.mem_of_getElem? (i := 19) rfl)) rfl rfl flq1_9 flp1_9 (dk dX3_endDay_1 0 rfl) h (fun s11 h => ?_)
      exact k_vret E (dk dX3_endDay_1 1 rfl) h
  ·
    refine k_icmp_ge (tgt := 41) C (dk dX3_endDay_0 16 rfl) (by decide) h (fun h => ?_) (fun h => ?_)
    ·
      refine k_sub C [1, 0] rfl ?_
      exact hJ41 _ h
    ·
      refine k_aload_n C (dk dX3_endDay_0 17 rfl) rfl 1 rfl ?_
      refine k_dup C (dk dX3_endDay_0 18 rfl) rfl ?_
      refine k_getI (D := RX3) (T := TX3) (N := 10) (ci := 1) (k := 8) C iCX3 ho0 (by decide) rfl (by decide) (iW1 _ (List.mem_of_getElem? (i := 18) rfl)) rfl (dk dX3_endDay_0 19 rfl) h (fun x12 h => ?_)
      refine k_iconst (v := (1 : Int32)) C (dk dX3_endDay_0 20 rfl) (by decide) ?_
      refine k_iadd C (dk dX3_endDay_0 21 rfl) ?_
      refine k_putI (D := RX3) (T := TX3) (N := 10) (ci := 1) (k := 8) C iCX3 tyX3_ok nmX3 ho0 (by decide) rfl (by decide) (iW1 _ (List.mem_of_getElem? (i := 18) rfl)) rfl rfl flq1_8 flp1_8 (dk dX3_endDay_0 22 rfl) h (fun s13 h => ?_)
      refine k_sub C [1, 0] rfl ?_
      exact hJ41 _ h
set_option maxRecDepth 100000 in
set_option maxHeartbeats 4000000 in
theorem qX3_goDay (l : Launch) (g : G) (hg : gOK g) {o0 : Nat} {a1 : Int32} {a2 : Int32} (ho0 : kd o0 = 1) {s0 σe : St} {v : Int32} (h : mX3_goDay o0 a1 a2 s0 = some (v, σe)) : Mc l g yX3_goDay cX3_goDay 5 (some .boolean) { frames := 4, cells := 0, slots := 0, locals := 90 } [.ref (g.2.2 o0), .int a1, .int a2] s0 (some (.int v)) σe := by
  refine k_enter hg pnRX3 rfl (Nat.le_of_ble_eq_true rfl) ?_
  intro WK E
  have C := kX_y E
  unfold mX3_goDay at h
  show WK 0 [(0, .ref (g.2.2 o0)), (1, .int a1), (2, .int a2)] [] s0
  refine k_aload_n C (dk dX3_goDay_0 0 rfl) rfl 0 rfl ?_
  refine k_aload_n C (dk dX3_goDay_0 1 rfl) rfl 0 rfl ?_
  refine k_getI (D := RX3) (T := TX3) (N := 10) (ci := 1) (k := 5) C iCX3 ho0 (by decide) rfl (by decide) (iW1 _ (List.mem_of_getElem? (i := 15) rfl)) rfl (dk dX3_goDay_0 2 rfl) h (fun x1 h => ?_)
  refine k_iload_n C (dk dX3_goDay_0 3 rfl) rfl 1 rfl ?_
  refine cl2_k h (fun x3 s2 hc h => ?_)
  refine k_cv (T := TX3) (N := 10) (ci := 1) (ob := o0) (As := [.int x1, .int a1]) (st := []) C (qX3_cellBy l g hg ho0 hc) (iW6 _ (List.mem_of_getElem? (i := 28) rfl)) (iW6 _ (List.mem_of_getElem? (i := 29) rfl)) (iW7 _ (List.mem_of_getElem? (i := 0) rfl)) (iW0 _ (List.mem_of_getElem? (i := 15) rfl)) (iW7 _ (List.mem_of_getElem? (i := 1) rfl)) rfl rfl hdX3_cellBy (by decide) ho0 (by decide) rfl rfl rfl (Nat.le_of_ble_eq_true rfl) (dk dX3_goDay_0 4 rfl) ?_
  refine k_istore_n (lv' := [(3, .int x3), (0, .ref (g.2.2 o0)), (1, .int a1), (2, .int a2)]) C (dk dX3_goDay_0 5 rfl) rfl (by decide) rfl ?_
  refine k_aload_n C (dk dX3_goDay_0 6 rfl) rfl 1 rfl ?_
  refine k_aload_n C (dk dX3_goDay_0 7 rfl) rfl 1 rfl ?_
  refine k_getI (D := RX3) (T := TX3) (N := 10) (ci := 1) (k := 6) C iCX3 ho0 (by decide) rfl (by decide) (iW1 _ (List.mem_of_getElem? (i := 16) rfl)) rfl (dk dX3_goDay_0 8 rfl) h (fun x4 h => ?_)
  refine k_iload_n C (dk dX3_goDay_0 9 rfl) rfl 3 rfl ?_
  refine cl2_k h (fun x6 s5 hc h => ?_)
  refine k_cv (T := TX3) (N := 10) (ci := 1) (ob := o0) (As := [.int x4, .int a2]) (st := []) C (qX3_cellBy l g hg ho0 hc) (iW6 _ (List.mem_of_getElem? (i := 28) rfl)) (iW6 _ (List.mem_of_getElem? (i := 29) rfl)) (iW7 _ (List.mem_of_getElem? (i := 0) rfl)) (iW0 _ (List.mem_of_getElem? (i := 15) rfl)) (iW7 _ (List.mem_of_getElem? (i := 1) rfl)) rfl rfl hdX3_cellBy (by decide) ho0 (by decide) rfl rfl rfl (Nat.le_of_ble_eq_true rfl) (dk dX3_goDay_0 10 rfl) ?_
  refine k_istore (lv' := [(4, .int x6), (3, .int x3), (0, .ref (g.2.2 o0)), (1, .int a1), (2, .int a2)]) C (dk dX3_goDay_0 11 rfl) (by decide) rfl ?_
  refine k_iload_n C (dk dX3_goDay_0 12 rfl) rfl 1 rfl ?_
  refine k_bipush (v := (-4 : Int32)) C (dk dX3_goDay_0 13 rfl) (by decide) ?_
  refine k_icmp_eq (tgt := 44) C (dk dX3_goDay_0 14 rfl) (by decide) h (fun h => ?_) (fun h => ?_)
  ·
    refine k_iconst (v := (0 : Int32)) C (dk dX3_goDay_0 22 rfl) (by decide) ?_
    exact k_zret E (dk dX3_goDay_0 23 rfl) h
  ·
    refine k_iload C (dk dX3_goDay_0 15 rfl) 0 rfl ?_
    refine k_bipush (v := (-4 : Int32)) C (dk dX3_goDay_0 16 rfl) (by decide) ?_
    refine k_icmp_eq (tgt := 44) C (dk dX3_goDay_0 17 rfl) (by decide) h (fun h => ?_) (fun h => ?_)
    ·
      refine k_iconst (v := (0 : Int32)) C (dk dX3_goDay_0 22 rfl) (by decide) ?_
      exact k_zret E (dk dX3_goDay_0 23 rfl) h
    ·
      refine k_aload_n C (dk dX3_goDay_0 18 rfl) rfl 2 rfl ?_
      refine k_getI (D := RX3) (T := TX3) (N := 10) (ci := 1) (k := 7) C iCX3 ho0 (by decide) rfl (by decide) (iW1 _ (List.mem_of_getElem? (i := 17) rfl)) rfl (dk dX3_goDay_0 19 rfl) h (fun x7 h => ?_)
      refine k_sipush (v := (999 : Int32)) C (dk dX3_goDay_0 20 rfl) (by decide) ?_
      refine k_icmp_lt (tgt := 46) C (dk dX3_goDay_0 21 rfl) (by decide) h (fun h => ?_) (fun h => ?_)
      ·
        refine k_aload_n C (dk dX3_goDay_0 24 rfl) rfl 2 rfl ?_
        refine k_dup C (dk dX3_goDay_0 25 rfl) rfl ?_
        refine k_getI (D := RX3) (T := TX3) (N := 10) (ci := 1) (k := 7) C iCX3 ho0 (by decide) rfl (by decide) (iW1 _ (List.mem_of_getElem? (i := 17) rfl)) rfl (dk dX3_goDay_0 26 rfl) h (fun x8 h => ?_)
        refine k_iconst (v := (1 : Int32)) C (dk dX3_goDay_0 27 rfl) (by decide) ?_
        refine k_iadd C (dk dX3_goDay_0 28 rfl) ?_
        refine k_putI (D := RX3) (T := TX3) (N := 10) (ci := 1) (k := 7) C iCX3 tyX3_ok nmX3 ho0 (by decide) rfl (by decide) (iW1 _ (List.mem_of_getElem? (i := 17) rfl)) rfl rfl flq1_7 flp1_7 (dk dX3_goDay_0 29 rfl) h (fun s9 h => ?_)
        refine k_aload_n C (dk dX3_goDay_0 30 rfl) rfl 2 rfl ?_
        refine k_iload_n C (dk dX3_goDay_0 31 rfl) rfl 1 rfl ?_
        refine k_iload C (dk dX3_goDay_1 0 rfl) 0 rfl ?_
        refine cl1_k h (fun s10 hc h => ?_)
        refine k_cv (T := TX3) (N := 10) (ci := 1) (ob := o0) (As := [.int x3, .int x6]) (st := []) C (qX3_endDay l g hg ho0 hc) (iW7 _ (List.mem_of_getElem? (i := 7) rfl)) (iW7 _ (List.mem_of_getElem? (i := 8) rfl)) (iW7 _ (List.mem_of_getElem? (i := 9) rfl)) (iW0 _ (List.mem_of_getElem? (i := 15) rfl)) (iW7 _ (List.mem_of_getElem? (i := 10) rfl)) rfl rfl hdX3_endDay (by decide) ho0 (by decide) rfl rfl rfl (Nat.le_of_ble_eq_true rfl) (dk dX3_goDay_1 1 rfl) ?_
        refine k_iconst (v := (1 : Int32)) C (dk dX3_goDay_1 2 rfl) (by decide) ?_
        exact k_zret E (dk dX3_goDay_1 3 rfl) h
      ·
        refine k_iconst (v := (0 : Int32)) C (dk dX3_goDay_0 22 rfl) (by decide) ?_
        exact k_zret E (dk dX3_goDay_0 23 rfl) h
set_option maxRecDepth 100000 in
set_option maxHeartbeats 4000000 in
theorem qX4_lay (l : Launch) (g : G) (hg : gOK g) {o1 : Nat} (ho1 : kd o1 = 1) {s0 σe : St} (h : mX4_lay o1 s0 = some σe) : Mc l g yX4_lay cX4_lay 7 none { frames := 3, cells := 0, slots := 0, locals := 67 } [.ref (g.2.2 42), .ref (g.2.2 o1)] s0 none σe := by
  refine k_enter hg pnRX4 rfl (Nat.le_of_ble_eq_true rfl) ?_
  intro WK E
  have C := kX_y E
  unfold mX4_lay at h
  show WK 0 [(0, .ref (g.2.2 42)), (1, .ref (g.2.2 o1))] [] s0
  refine k_iconst (v := (0 : Int32)) C (dk dX4_lay_0 0 rfl) (by decide) ?_
  refine k_istore_n (lv' := [(2, .int (0 : Int32)), (0, .ref (g.2.2 42)), (1, .ref (g.2.2 o1))]) C (dk dX4_lay_0 1 rfl) rfl (by decide) rfl ?_
  refine kl_L (P := (fun J2 => ∀ (y1 : Int32) (s2 : St), J2 y1 s2 = some σe → WK 2 [(0, .ref (g.2.2 42)), (1, .ref (g.2.2 o1)), (2, .int y1)] [] s2)) h (fun _ _ h => nomatch h) (fun J2 hJ2 y1 s2 h => ?_) (fun J2 hJ2 h => ?_)
  ·
    unfold mX4_lay_2 at h
    refine k_iload_n C (dk dX4_lay_0 2 rfl) rfl 2 rfl ?_
    refine k_iconst (v := (5 : Int32)) C (dk dX4_lay_0 3 rfl) (by decide) ?_
    refine k_icmp_ge (tgt := 97) C (dk dX4_lay_0 4 rfl) (by decide) h (fun h => ?_) (fun h => ?_)
    ·
      exact k_vret E (dk dX4_lay_1 20 rfl) h
    ·
      refine k_iconst (v := (0 : Int32)) C (dk dX4_lay_0 5 rfl) (by decide) ?_
      refine k_istore_n (lv' := [(3, .int (0 : Int32)), (0, .ref (g.2.2 42)), (1, .ref (g.2.2 o1)), (2, .int y1)]) C (dk dX4_lay_0 6 rfl) rfl (by decide) rfl ?_
      refine kl_L (P := (fun J9 => ∀ (y3 : Int32) (s4 : St), J9 y3 s4 = some σe → WK 9 [(0, .ref (g.2.2 42)), (1, .ref (g.2.2 o1)), (2, .int y1), (3, .int y3)] [] s4)) h (fun _ _ h => nomatch h) (fun J9 hJ9 y3 s4 h => ?_) (fun J9 hJ9 h => ?_)
      ·
        unfold mX4_lay_9 at h
        refine k_iload_n C (dk dX4_lay_0 7 rfl) rfl 3 rfl ?_
        refine k_iconst (v := (5 : Int32)) C (dk dX4_lay_0 8 rfl) (by decide) ?_
        refine k_icmp_ge (tgt := 91) C (dk dX4_lay_0 9 rfl) (by decide) h (fun h => ?_) (fun h => ?_)
        ·
          refine k_iinc (lv' := [(2, .int (y1 + 1)), (0, .ref (g.2.2 42)), (1, .ref (g.2.2 o1)), (3, .int y3)]) C (dk dX4_lay_1 18 rfl) (j := 2) rfl rfl (by decide) rfl ?_
          refine k_goto (tgt := 2) C (dk dX4_lay_1 19 rfl) (by decide) ?_
          refine k_sub C [1, 2, 0] rfl ?_
          exact hJ2 _ _ h
        ·
          refine k_aload_n C (dk dX4_lay_0 10 rfl) rfl 1 rfl ?_
          refine k_aload_n C (dk dX4_lay_0 11 rfl) rfl 1 rfl ?_
          refine k_getI (D := RX3) (T := TX3) (N := 10) (ci := 1) (k := 5) C iCX3 ho1 (by decide) rfl (by decide) (iW28 _ (List.mem_of_getElem? (i := 17) rfl)) rfl (dk dX4_lay_0 12 rfl) h (fun x5 h => ?_)
          refine k_iload_n C (dk dX4_lay_0 13 rfl) rfl 2 rfl ?_
          refine cl2_k h (fun x7 s6 hc h => ?_)
          refine k_cv (T := TX3) (N := 10) (ci := 1) (ob := o1) (As := [.int x5, .int y1]) (st := []) C (qX3_cellBy l g hg ho1 hc) (iW28 _ (List.mem_of_getElem? (i := 19) rfl)) (iW6 _ (List.mem_of_getElem? (i := 29) rfl)) (iW7 _ (List.mem_of_getElem? (i := 0) rfl)) (iW0 _ (List.mem_of_getElem? (i := 15) rfl)) (iW7 _ (List.mem_of_getElem? (i := 1) rfl)) rfl rfl hdX3_cellBy (by decide) ho1 (by decide) rfl rfl rfl (Nat.le_of_ble_eq_true rfl) (dk dX4_lay_0 14 rfl) ?_
          refine k_istore (lv' := [(4, .int x7), (0, .ref (g.2.2 42)), (1, .ref (g.2.2 o1)), (2, .int y1), (3, .int y3)]) C (dk dX4_lay_0 15 rfl) (by decide) rfl ?_
          refine k_aload_n C (dk dX4_lay_0 16 rfl) rfl 2 rfl ?_
          refine k_aload_n C (dk dX4_lay_0 17 rfl) rfl 2 rfl ?_
          refine k_getI (D := RX3) (T := TX3) (N := 10) (ci := 1) (k := 6) C iCX3 ho1 (by decide) rfl (by decide) (iW28 _ (List.mem_of_getElem? (i := 18) rfl)) rfl (dk dX4_lay_0 18 rfl) h (fun x8 h => ?_)
          refine k_iload_n C (dk dX4_lay_0 19 rfl) rfl 4 rfl ?_
          refine cl2_k h (fun x10 s9 hc h => ?_)
          refine k_cv (T := TX3) (N := 10) (ci := 1) (ob := o1) (As := [.int x8, .int y3]) (st := []) C (qX3_cellBy l g hg ho1 hc) (iW28 _ (List.mem_of_getElem? (i := 19) rfl)) (iW6 _ (List.mem_of_getElem? (i := 29) rfl)) (iW7 _ (List.mem_of_getElem? (i := 0) rfl)) (iW0 _ (List.mem_of_getElem? (i := 15) rfl)) (iW7 _ (List.mem_of_getElem? (i := 1) rfl)) rfl rfl hdX3_cellBy (by decide) ho1 (by decide) rfl rfl rfl (Nat.le_of_ble_eq_true rfl) (dk dX4_lay_0 20 rfl) ?_
          refine k_istore (lv' := [(5, .int x10), (4, .int x7), (0, .ref (g.2.2 42)), (1, .ref (g.2.2 o1)), (2, .int y1), (3, .int y3)]) C (dk dX4_lay_0 21 rfl) (by decide) rfl ?_
          refine k_iload C (dk dX4_lay_0 22 rfl) 1 rfl ?_
          refine k_bipush (v := (-4 : Int32)) C (dk dX4_lay_0 23 rfl) (by decide) ?_
          refine kl_J (P := (fun J55 => ∀ (y11 : Int32) (s12 : St), J55 y11 s12 = some σe → WK 55 [(0, .ref (g.2.2 42)), (1, .ref (g.2.2 o1)), (2, .int y1), (3, .int y3), (4, .int x7), (5, .int x10)] [.int y11] s12)) h (fun y11 s12 h => ?_) (fun J55 hJ55 h => ?_)
          ·
            unfold mX4_lay_55 at h
            refine k_istore (lv' := [(6, .int y11), (0, .ref (g.2.2 42)), (1, .ref (g.2.2 o1)), (2, .int y1), (3, .int y3), (4, .int x7), (5, .int x10)]) C (dk dX4_lay_0 31 rfl) (by decide) rfl ?_
            refine k_aload_n C (dk dX4_lay_1 0 rfl) rfl 1 rfl ?_
            refine k_getR (q := 43) (D := RX4) (T := TX4) (N := 1) (ci := 2) (k := 0) C iCX4 rfl (by decide) rfl (by decide) (iW2 _ (List.mem_of_getElem? (i := 11) rfl)) rfl (dk dX4_lay_1 1 rfl) ?_
            refine k_iload_n C (dk dX4_lay_1 2 rfl) rfl 3 rfl ?_
            refine k_iconst (v := (5 : Int32)) C (dk dX4_lay_1 3 rfl) (by decide) ?_
            refine k_imul C (dk dX4_lay_1 4 rfl) ?_
            refine k_iload_n C (dk dX4_lay_1 5 rfl) rfl 4 rfl ?_
            refine k_iadd C (dk dX4_lay_1 6 rfl) ?_
            refine k_iload C (dk dX4_lay_1 7 rfl) 0 rfl ?_
            refine kl_J (P := (fun J84 => ∀ (y13 : Int32) (s14 : St), J84 y13 s14 = some σe → WK 84 [(0, .ref (g.2.2 42)), (1, .ref (g.2.2 o1)), (2, .int y1), (3, .int y3)] [.int y13, .int ((y1 * (5 : Int32)) + y3), .ref (g.2.2 43)] s14)) h (fun y13 s14 h => ?_) (fun J84 hJ84 h => ?_)
            ·
              unfold mX4_lay_84 at h
              refine k_iast C rfl rfl (dk dX4_lay_1 15 rfl) h (fun s15 h => ?_)
              refine k_iinc (lv' := [(3, .int (y3 + 1)), (0, .ref (g.2.2 42)), (1, .ref (g.2.2 o1)), (2, .int y1)]) C (dk dX4_lay_1 16 rfl) (j := 3) rfl rfl (by decide) rfl ?_
              refine k_goto (tgt := 9) C (dk dX4_lay_1 17 rfl) (by decide) ?_
              refine k_sub C [1, 2, 3, 0] rfl ?_
              exact hJ9 _ _ h
            ·
              refine k_if_eq (tgt := 82) C (dk dX4_lay_1 8 rfl) (by decide) h (fun h => ?_) (fun h => ?_)
              ·
                refine k_bipush (v := (-4 : Int32)) C (dk dX4_lay_1 14 rfl) (by decide) ?_
                refine k_sub C [1, 2, 3, 4] rfl ?_
                exact hJ84 _ _ h
              ·
                refine k_aload_n C (dk dX4_lay_1 9 rfl) rfl 2 rfl ?_
                refine k_iload C (dk dX4_lay_1 10 rfl) 5 rfl ?_
                refine k_iload C (dk dX4_lay_1 11 rfl) 6 rfl ?_
                refine cl2_k h (fun x17 s16 hc h => ?_)
                refine k_cv (T := TX3) (N := 10) (ci := 1) (ob := o1) (As := [.int x7, .int x10]) (st := [.int ((y1 * (5 : Int32)) + y3), .ref (g.2.2 43)]) C (qX3_farBetween l g hg ho1 hc) (iW28 _ (List.mem_of_getElem? (i := 20) rfl)) (iW7 _ (List.mem_of_getElem? (i := 12) rfl)) (iW7 _ (List.mem_of_getElem? (i := 13) rfl)) (iW0 _ (List.mem_of_getElem? (i := 15) rfl)) (iW7 _ (List.mem_of_getElem? (i := 14) rfl)) rfl rfl hdX3_farBetween (by decide) ho1 (by decide) rfl rfl rfl (Nat.le_of_ble_eq_true rfl) (dk dX4_lay_1 12 rfl) ?_
                refine k_goto (tgt := 84) C (dk dX4_lay_1 13 rfl) (by decide) ?_
                refine k_sub C [1, 2, 3, 4] rfl ?_
                exact hJ84 _ _ h
          ·
            refine kl_J (P := (fun J54 => ∀ (s18 : St), J54 s18 = some σe → WK 54 [(0, .ref (g.2.2 42)), (1, .ref (g.2.2 o1)), (2, .int y1), (3, .int y3), (4, .int x7), (5, .int x10)] [] s18)) h (fun s18 h => ?_) (fun J54 hJ54 h => ?_)
            ·
              unfold mX4_lay_54 at h
              refine k_iconst (v := (0 : Int32)) C (dk dX4_lay_0 30 rfl) (by decide) ?_
              exact hJ55 _ _ h
            ·
              refine k_icmp_eq (tgt := 54) C (dk dX4_lay_0 24 rfl) (by decide) h (fun h => ?_) (fun h => ?_)
              ·
                refine k_sub C [2, 3, 4, 5, 1, 0] rfl ?_
                exact hJ54 _ h
              ·
                refine k_iload C (dk dX4_lay_0 25 rfl) 0 rfl ?_
                refine k_bipush (v := (-4 : Int32)) C (dk dX4_lay_0 26 rfl) (by decide) ?_
                refine k_icmp_eq (tgt := 54) C (dk dX4_lay_0 27 rfl) (by decide) h (fun h => ?_) (fun h => ?_)
                ·
                  refine k_sub C [2, 3, 4, 5, 1, 0] rfl ?_
                  exact hJ54 _ h
                ·
                  refine k_iconst (v := (1 : Int32)) C (dk dX4_lay_0 28 rfl) (by decide) ?_
                  refine k_goto (tgt := 55) C (dk dX4_lay_0 29 rfl) (by decide) ?_
                  refine k_sub C [2, 3, 4, 5, 1, 0] rfl ?_
                  exact hJ55 _ _ h
      ·
        refine k_sub C [1, 2, 3, 0] rfl ?_
        exact hJ9 _ _ h
  ·
    refine k_sub C [1, 2, 0] rfl ?_
    exact hJ2 _ _ h
set_option maxRecDepth 100000 in
set_option maxHeartbeats 4000000 in
theorem qX10_isWay (l : Launch) (g : G) (hg : gOK g) {a0 : Int32}  {s0 σe : St} {v : Int32} (h : mX10_isWay a0 s0 = some (v, σe)) : Mc l g yX10_isWay cX10_isWay 1 (some .boolean) { frames := 0, cells := 0, slots := 0, locals := 0 } [.int a0] s0 (some (.int v)) σe := by
  refine k_enter hg pnRX10 rfl (Nat.le_of_ble_eq_true rfl) ?_
  intro WK E
  have C := kX_y E
  unfold mX10_isWay at h
  show WK 0 [(0, .int a0)] [] s0
  refine k_iload_n C (dk dX10_isWay_0 0 rfl) rfl 0 rfl ?_
  refine k_if_lt (tgt := 13) C (dk dX10_isWay_0 1 rfl) (by decide) h (fun h => ?_) (fun h => ?_)
  ·
    refine k_iconst (v := (0 : Int32)) C (dk dX10_isWay_0 7 rfl) (by decide) ?_
    exact k_zret E (dk dX10_isWay_0 8 rfl) h
  ·
    refine k_iload_n C (dk dX10_isWay_0 2 rfl) rfl 0 rfl ?_
    refine k_iconst (v := (5 : Int32)) C (dk dX10_isWay_0 3 rfl) (by decide) ?_
    refine k_icmp_ge (tgt := 13) C (dk dX10_isWay_0 4 rfl) (by decide) h (fun h => ?_) (fun h => ?_)
    ·
      refine k_iconst (v := (0 : Int32)) C (dk dX10_isWay_0 7 rfl) (by decide) ?_
      exact k_zret E (dk dX10_isWay_0 8 rfl) h
    ·
      refine k_iconst (v := (1 : Int32)) C (dk dX10_isWay_0 5 rfl) (by decide) ?_
      refine k_goto (tgt := 14) C (dk dX10_isWay_0 6 rfl) (by decide) ?_
      exact k_zret E (dk dX10_isWay_0 8 rfl) h
set_option maxRecDepth 100000 in
set_option maxHeartbeats 4000000 in
theorem qX4_farOf (l : Launch) (g : G) (hg : gOK g) {a1 : Int32} {a2 : Int32}  {s0 σe : St} {v : Int32} (h : mX4_farOf a1 a2 s0 = some (v, σe)) : Mc l g yX4_farOf cX4_farOf 3 (some .int) { frames := 1, cells := 0, slots := 0, locals := 20 } [.ref (g.2.2 42), .int a1, .int a2] s0 (some (.int v)) σe := by
  refine k_enter hg pnRX4 rfl (Nat.le_of_ble_eq_true rfl) ?_
  intro WK E
  have C := kX_y E
  unfold mX4_farOf at h
  show WK 0 [(0, .ref (g.2.2 42)), (1, .int a1), (2, .int a2)] [] s0
  refine k_iload_n C (dk dX4_farOf_0 0 rfl) rfl 1 rfl ?_
  refine cl2_k h (fun x2 s1 hc h => ?_)
  refine k_cn (As := [.int a1]) (st := []) C (qX10_isWay l g hg hc) (iW13 _ (List.mem_of_getElem? (i := 20) rfl)) rfl rfl (List.mem_of_getElem? (i := 7) rfl) (iW13 _ (List.mem_of_getElem? (i := 19) rfl)) (iW0 _ (List.mem_of_getElem? (i := 2) rfl)) hdX10_isWay (by decide) rfl rfl (Nat.le_of_ble_eq_true rfl) (dk dX4_farOf_0 1 rfl) ?_
  refine k_if_eq (tgt := 27) C (dk dX4_farOf_0 2 rfl) (by decide) h (fun h => ?_) (fun h => ?_)
  ·
    refine k_bipush (v := (-4 : Int32)) C (dk dX4_farOf_0 15 rfl) (by decide) ?_
    exact k_iret E (dk dX4_farOf_0 16 rfl) h
  ·
    refine k_iload_n C (dk dX4_farOf_0 3 rfl) rfl 2 rfl ?_
    refine cl2_k h (fun x4 s3 hc h => ?_)
    refine k_cn (As := [.int a2]) (st := []) C (qX10_isWay l g hg hc) (iW13 _ (List.mem_of_getElem? (i := 20) rfl)) rfl rfl (List.mem_of_getElem? (i := 7) rfl) (iW13 _ (List.mem_of_getElem? (i := 19) rfl)) (iW0 _ (List.mem_of_getElem? (i := 2) rfl)) hdX10_isWay (by decide) rfl rfl (Nat.le_of_ble_eq_true rfl) (dk dX4_farOf_0 4 rfl) ?_
    refine k_if_eq (tgt := 27) C (dk dX4_farOf_0 5 rfl) (by decide) h (fun h => ?_) (fun h => ?_)
    ·
      refine k_bipush (v := (-4 : Int32)) C (dk dX4_farOf_0 15 rfl) (by decide) ?_
      exact k_iret E (dk dX4_farOf_0 16 rfl) h
    ·
      refine k_aload_n C (dk dX4_farOf_0 6 rfl) rfl 0 rfl ?_
      refine k_getR (q := 43) (D := RX4) (T := TX4) (N := 1) (ci := 2) (k := 0) C iCX4 rfl (by decide) rfl (by decide) (iW2 _ (List.mem_of_getElem? (i := 11) rfl)) rfl (dk dX4_farOf_0 7 rfl) ?_
      refine k_iload_n C (dk dX4_farOf_0 8 rfl) rfl 1 rfl ?_
      refine k_iconst (v := (5 : Int32)) C (dk dX4_farOf_0 9 rfl) (by decide) ?_
      refine k_imul C (dk dX4_farOf_0 10 rfl) ?_
      refine k_iload_n C (dk dX4_farOf_0 11 rfl) rfl 2 rfl ?_
      refine k_iadd C (dk dX4_farOf_0 12 rfl) ?_
      refine k_iald C rfl rfl (dk dX4_farOf_0 13 rfl) h (fun x5 h => ?_)
      refine k_goto (tgt := 29) C (dk dX4_farOf_0 14 rfl) (by decide) ?_
      exact k_iret E (dk dX4_farOf_0 16 rfl) h
set_option maxRecDepth 100000 in
set_option maxHeartbeats 4000000 in
theorem qX4_isHeld (l : Launch) (g : G) (hg : gOK g) {a1 : Int32} {a2 : Int32}  {s0 σe : St} {v : Int32} (h : mX4_isHeld a1 a2 s0 = some (v, σe)) : Mc l g yX4_isHeld cX4_isHeld 7 (some .boolean) { frames := 2, cells := 0, slots := 0, locals := 42 } [.ref (g.2.2 42), .int a1, .int a2] s0 (some (.int v)) σe := by
  refine k_enter hg pnRX4 rfl (Nat.le_of_ble_eq_true rfl) ?_
  intro WK E
  have C := kX_y E
  unfold mX4_isHeld at h
  show WK 0 [(0, .ref (g.2.2 42)), (1, .int a1), (2, .int a2)] [] s0
  refine k_aload_n C (dk dX4_isHeld_0 0 rfl) rfl 0 rfl ?_
  refine k_iload_n C (dk dX4_isHeld_0 1 rfl) rfl 1 rfl ?_
  refine k_iload_n C (dk dX4_isHeld_0 2 rfl) rfl 2 rfl ?_
  refine cl2_k h (fun x2 s1 hc h => ?_)
  refine k_cv (T := TX4) (N := 1) (ci := 2) (ob := 42) (As := [.int a1, .int a2]) (st := []) C (qX4_farOf l g hg hc) (iW28 _ (List.mem_of_getElem? (i := 25) rfl)) (iW28 _ (List.mem_of_getElem? (i := 26) rfl)) (iW28 _ (List.mem_of_getElem? (i := 27) rfl)) (iW0 _ (List.mem_of_getElem? (i := 29) rfl)) (iW28 _ (List.mem_of_getElem? (i := 28) rfl)) rfl rfl hdX4_farOf (by decide) rfl (by decide) rfl rfl rfl (Nat.le_of_ble_eq_true rfl) (dk dX4_isHeld_0 3 rfl) ?_
  refine k_istore_n (lv' := [(3, .int x2), (0, .ref (g.2.2 42)), (1, .int a1), (2, .int a2)]) C (dk dX4_isHeld_0 4 rfl) rfl (by decide) rfl ?_
  refine k_iconst (v := (0 : Int32)) C (dk dX4_isHeld_0 5 rfl) (by decide) ?_
  refine k_istore (lv' := [(4, .int (0 : Int32)), (3, .int x2), (0, .ref (g.2.2 42)), (1, .int a1), (2, .int a2)]) C (dk dX4_isHeld_0 6 rfl) (by decide) rfl ?_
  refine kl_L (P := (fun J10 => ∀ (y3 : Int32) (s4 : St), J10 y3 s4 = some (v, σe) → WK 10 [(0, .ref (g.2.2 42)), (1, .int a1), (2, .int a2), (3, .int x2), (4, .int y3)] [] s4)) h (fun _ _ h => nomatch h) (fun J10 hJ10 y3 s4 h => ?_) (fun J10 hJ10 h => ?_)
  ·
    unfold mX4_isHeld_10 at h
    refine k_iload C (dk dX4_isHeld_0 7 rfl) 4 rfl ?_
    refine k_iconst (v := (5 : Int32)) C (dk dX4_isHeld_0 8 rfl) (by decide) ?_
    refine k_icmp_ge (tgt := 68) C (dk dX4_isHeld_0 9 rfl) (by decide) h (fun h => ?_) (fun h => ?_)
    ·
      refine k_iconst (v := (1 : Int32)) C (dk dX4_isHeld_1 4 rfl) (by decide) ?_
      exact k_zret E (dk dX4_isHeld_1 5 rfl) h
    ·
      refine k_aload_n C (dk dX4_isHeld_0 10 rfl) rfl 0 rfl ?_
      refine k_iload C (dk dX4_isHeld_0 11 rfl) 4 rfl ?_
      refine k_iload_n C (dk dX4_isHeld_0 12 rfl) rfl 2 rfl ?_
      refine cl2_k h (fun x6 s5 hc h => ?_)
      refine k_cv (T := TX4) (N := 1) (ci := 2) (ob := 42) (As := [.int y3, .int a2]) (st := []) C (qX4_farOf l g hg hc) (iW28 _ (List.mem_of_getElem? (i := 25) rfl)) (iW28 _ (List.mem_of_getElem? (i := 26) rfl)) (iW28 _ (List.mem_of_getElem? (i := 27) rfl)) (iW0 _ (List.mem_of_getElem? (i := 29) rfl)) (iW28 _ (List.mem_of_getElem? (i := 28) rfl)) rfl rfl hdX4_farOf (by decide) rfl (by decide) rfl rfl rfl (Nat.le_of_ble_eq_true rfl) (dk dX4_isHeld_0 13 rfl) ?_
      refine k_istore (lv' := [(5, .int x6), (0, .ref (g.2.2 42)), (1, .int a1), (2, .int a2), (3, .int x2), (4, .int y3)]) C (dk dX4_isHeld_0 14 rfl) (by decide) rfl ?_
      refine k_aload_n C (dk dX4_isHeld_0 15 rfl) rfl 1 rfl ?_
      refine k_iload_n C (dk dX4_isHeld_0 16 rfl) rfl 2 rfl ?_
      refine k_iload C (dk dX4_isHeld_0 17 rfl) 5 rfl ?_
      refine cl2_k h (fun x8 s7 hc h => ?_)
      refine k_cv (T := TX4) (N := 1) (ci := 2) (ob := 42) (As := [.int a1, .int y3]) (st := []) C (qX4_farOf l g hg hc) (iW28 _ (List.mem_of_getElem? (i := 25) rfl)) (iW28 _ (List.mem_of_getElem? (i := 26) rfl)) (iW28 _ (List.mem_of_getElem? (i := 27) rfl)) (iW0 _ (List.mem_of_getElem? (i := 29) rfl)) (iW28 _ (List.mem_of_getElem? (i := 28) rfl)) rfl rfl hdX4_farOf (by decide) rfl (by decide) rfl rfl rfl (Nat.le_of_ble_eq_true rfl) (dk dX4_isHeld_0 18 rfl) ?_
      refine k_istore (lv' := [(6, .int x8), (5, .int x6), (0, .ref (g.2.2 42)), (1, .int a1), (2, .int a2), (3, .int x2), (4, .int y3)]) C (dk dX4_isHeld_0 19 rfl) (by decide) rfl ?_
      refine k_iload C (dk dX4_isHeld_0 20 rfl) 1 rfl ?_
      refine k_bipush (v := (-4 : Int32)) C (dk dX4_isHeld_0 21 rfl) (by decide) ?_
      refine kl_J (P := (fun J47 => ∀ (s9 : St), J47 s9 = some (v, σe) → WK 47 [(0, .ref (g.2.2 42)), (1, .int a1), (2, .int a2), (3, .int x2), (4, .int y3), (6, .int x8)] [] s9)) h (fun s9 h => ?_) (fun J47 hJ47 h => ?_)
      ·
        unfold mX4_isHeld_47 at h
        refine k_iload C (dk dX4_isHeld_0 26 rfl) 5 rfl ?_
        refine k_bipush (v := (-4 : Int32)) C (dk dX4_isHeld_0 27 rfl) (by decide) ?_
        refine kl_J (P := (fun J62 => ∀ (y10 : Int32) (s11 : St), J62 y10 s11 = some (v, σe) → WK 62 [(0, .ref (g.2.2 42)), (1, .int a1), (2, .int a2), (3, .int x2), (4, .int y10)] [] s11)) h (fun y10 s11 h => ?_) (fun J62 hJ62 h => ?_)
        ·
          unfold mX4_isHeld_62 at h
          refine k_iinc (lv' := [(4, .int (y10 + 1)), (0, .ref (g.2.2 42)), (1, .int a1), (2, .int a2), (3, .int x2)]) C (dk dX4_isHeld_1 2 rfl) (j := 4) rfl rfl (by decide) rfl ?_
          refine k_goto (tgt := 10) C (dk dX4_isHeld_1 3 rfl) (by decide) ?_
          refine k_sub C [1, 2, 3, 4, 0] rfl ?_
          exact hJ10 _ _ h
        ·
          refine k_icmp_eq (tgt := 62) C (dk dX4_isHeld_0 28 rfl) (by decide) h (fun h => ?_) (fun h => ?_)
          ·
            refine k_sub C [0, 1, 2, 3, 4] rfl ?_
            exact hJ62 _ _ h
          ·
            refine k_iload C (dk dX4_isHeld_0 29 rfl) 5 rfl ?_
            refine k_iload_n C (dk dX4_isHeld_0 30 rfl) rfl 3 rfl ?_
            refine k_icmp_le (tgt := 62) C (dk dX4_isHeld_0 31 rfl) (by decide) h (fun h => ?_) (fun h => ?_)
            ·
              refine k_sub C [0, 1, 2, 3, 4] rfl ?_
              exact hJ62 _ _ h
            ·
              refine k_iconst (v := (0 : Int32)) C (dk dX4_isHeld_1 0 rfl) (by decide) ?_
              exact k_zret E (dk dX4_isHeld_1 1 rfl) h
      ·
        refine k_icmp_eq (tgt := 47) C (dk dX4_isHeld_0 22 rfl) (by decide) h (fun h => ?_) (fun h => ?_)
        ·
          refine k_sub C [2, 3, 4, 5, 6, 0] rfl ?_
          exact hJ47 _ h
        ·
          refine k_iload C (dk dX4_isHeld_0 23 rfl) 1 rfl ?_
          refine k_iload_n C (dk dX4_isHeld_0 24 rfl) rfl 5 rfl ?_
          refine k_icmp_lt (tgt := 60) C (dk dX4_isHeld_0 25 rfl) (by decide) h (fun h => ?_) (fun h => ?_)
          ·
            refine k_iconst (v := (0 : Int32)) C (dk dX4_isHeld_1 0 rfl) (by decide) ?_
            exact k_zret E (dk dX4_isHeld_1 1 rfl) h
          ·
            refine k_sub C [2, 3, 4, 5, 6, 0] rfl ?_
            exact hJ47 _ h
  ·
    refine k_sub C [2, 3, 4, 1, 0] rfl ?_
    exact hJ10 _ _ h
