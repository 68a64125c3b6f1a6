set_option maxRecDepth 100000 in
set_option maxHeartbeats 4000000 in
theorem qX4_firstHeld (l : Launch) (g : G) (hg : gOK g)   {s0 σe : St} {v : Int32} (h : mX4_firstHeld s0 = some (v, σe)) : Mc l g yX4_firstHeld cX4_firstHeld 3 (some .int) { frames := 3, cells := 0, slots := 0, locals := 68 } [.ref (g.2.2 42)] s0 (some (.int v)) σe := by
  refine k_enter hg pnRX4 rfl (Nat.le_of_ble_eq_true rfl) ?_
  intro WK E
  have C := kX_y E
  unfold mX4_firstHeld at h
  show WK 0 [(0, .ref (g.2.2 42))] [] s0
  refine k_iconst (v := (0 : Int32)) C (dk dX4_firstHeld_0 0 rfl) (by decide) ?_
  refine k_istore_n (lv' := [(1, .int (0 : Int32)), (0, .ref (g.2.2 42))]) C (dk dX4_firstHeld_0 1 rfl) rfl (by decide) rfl ?_
  refine kl_L (P := (fun J2 => ∀ (y1 : Int32) (s2 : St), J2 y1 s2 = some (v, σe) → WK 2 [(0, .ref (g.2.2 42)), (1, .int y1)] [] s2)) h (fun _ _ h => nomatch h) (fun J2 hJ2 y1 s2 h => ?_) (fun J2 hJ2 h => ?_)
  ·
    unfold mX4_firstHeld_2 at h
    refine k_iload_n C (dk dX4_firstHeld_0 2 rfl) rfl 1 rfl ?_
    refine k_iconst (v := (5 : Int32)) C (dk dX4_firstHeld_0 3 rfl) (by decide) ?_
    refine k_icmp_ge (tgt := 53) C (dk dX4_firstHeld_0 4 rfl) (by decide) h (fun h => ?_) (fun h => ?_)
    ·
      refine k_bipush (v := (-4 : Int32)) C (dk dX4_firstHeld_0 31 rfl) (by decide) ?_
      exact k_iret E (dk dX4_firstHeld_1 0 rfl) h
    ·
      refine k_iconst (v := (0 : Int32)) C (dk dX4_firstHeld_0 5 rfl) (by decide) ?_
      refine k_istore_n (lv' := [(2, .int (0 : Int32)), (0, .ref (g.2.2 42)), (1, .int y1)]) C (dk dX4_firstHeld_0 6 rfl) rfl (by decide) rfl ?_
      refine kl_L (P := (fun J9 => ∀ (y3 : Int32) (s4 : St), J9 y3 s4 = some (v, σe) → WK 9 [(0, .ref (g.2.2 42)), (1, .int y1), (2, .int y3)] [] s4)) h (fun _ _ h => nomatch h) (fun J9 hJ9 y3 s4 h => ?_) (fun J9 hJ9 h => ?_)
      ·
        unfold mX4_firstHeld_9 at h
        refine k_iload_n C (dk dX4_firstHeld_0 7 rfl) rfl 2 rfl ?_
        refine k_iconst (v := (5 : Int32)) C (dk dX4_firstHeld_0 8 rfl) (by decide) ?_
        refine k_icmp_ge (tgt := 47) C (dk dX4_firstHeld_0 9 rfl) (by decide) h (fun h => ?_) (fun h => ?_)
        ·
          refine k_iinc (lv' := [(1, .int (y1 + 1)), (0, .ref (g.2.2 42)), (2, .int y3)]) C (dk dX4_firstHeld_0 29 rfl) (j := 1) rfl rfl (by decide) rfl ?_
          refine k_goto (tgt := 2) C (dk dX4_firstHeld_0 30 rfl) (by decide) ?_
          refine k_sub C [1, 0] rfl ?_
          exact hJ2 _ _ h
        ·
          refine k_aload_n C (dk dX4_firstHeld_0 10 rfl) rfl 0 rfl ?_
          refine k_iload_n C (dk dX4_firstHeld_0 11 rfl) rfl 1 rfl ?_
          refine k_iload_n C (dk dX4_firstHeld_0 12 rfl) rfl 2 rfl ?_
          refine cl2_k h (fun x6 s5 hc h => ?_)
          refine k_cv (T := TX4) (N := 1) (ci := 2) (ob := 42) (As := [.int y1, .int y3]) (st := []) C (qX4_farOf l g hg hc) (iW28 _ (List.mem_of_getElem? (i := 25) rfl)) (iW28 _ (List.mem_of_getElem? (i := 26) rfl)) (iW28 _ (List.mem_of_getElem? (i := 27) rfl)) (iW0 _ (List.mem_of_getElem? (i := 29) rfl)) (iW28 _ (List.mem_of_getElem? (i := 28) rfl)) rfl rfl hdX4_farOf (by decide) rfl (by decide) rfl rfl rfl (Nat.le_of_ble_eq_true rfl) (dk dX4_firstHeld_0 13 rfl) ?_
          refine k_bipush (v := (-4 : Int32)) C (dk dX4_firstHeld_0 14 rfl) (by decide) ?_
          refine kl_J (P := (fun J41 => ∀ (y7 : Int32) (s8 : St), J41 y7 s8 = some (v, σe) → WK 41 [(0, .ref (g.2.2 42)), (1, .int y1), (2, .int y7)] [] s8)) h (fun y7 s8 h => ?_) (fun J41 hJ41 h => ?_)
          ·
            unfold mX4_firstHeld_41 at h
            refine k_iinc (lv' := [(2, .int (y7 + 1)), (0, .ref (g.2.2 42)), (1, .int y1)]) C (dk dX4_firstHeld_0 27 rfl) (j := 2) rfl rfl (by decide) rfl ?_
            refine k_goto (tgt := 9) C (dk dX4_firstHeld_0 28 rfl) (by decide) ?_
            refine k_sub C [1, 2, 0] rfl ?_
            exact hJ9 _ _ h
          ·
            refine k_icmp_eq (tgt := 41) C (dk dX4_firstHeld_0 15 rfl) (by decide) h (fun h => ?_) (fun h => ?_)
            ·
              exact hJ41 _ _ h
            ·
              refine k_aload_n C (dk dX4_firstHeld_0 16 rfl) rfl 0 rfl ?_
              refine k_iload_n C (dk dX4_firstHeld_0 17 rfl) rfl 1 rfl ?_
              refine k_iload_n C (dk dX4_firstHeld_0 18 rfl) rfl 2 rfl ?_
              refine cl2_k h (fun x10 s9 hc h => ?_)
              refine k_cv (T := TX4) (N := 1) (ci := 2) (ob := 42) (As := [.int y1, .int y3]) (st := []) C (qX4_isHeld l g hg hc) (iW28 _ (List.mem_of_getElem? (i := 29) rfl)) (iW29 _ (List.mem_of_getElem? (i := 0) rfl)) (iW29 _ (List.mem_of_getElem? (i := 1) rfl)) (iW0 _ (List.mem_of_getElem? (i := 29) rfl)) (iW29 _ (List.mem_of_getElem? (i := 2) rfl)) rfl rfl hdX4_isHeld (by decide) rfl (by decide) rfl rfl rfl (Nat.le_of_ble_eq_true rfl) (dk dX4_firstHeld_0 19 rfl) ?_
              refine k_if_eq (tgt := 41) C (dk dX4_firstHeld_0 20 rfl) (by decide) h (fun h => ?_) (fun h => ?_)
              ·
                exact hJ41 _ _ h
              ·
                refine k_bipush (v := (10 : Int32)) C (dk dX4_firstHeld_0 21 rfl) (by decide) ?_
                refine k_iload_n C (dk dX4_firstHeld_0 22 rfl) rfl 1 rfl ?_
                refine k_imul C (dk dX4_firstHeld_0 23 rfl) ?_
                refine k_iload_n C (dk dX4_firstHeld_0 24 rfl) rfl 2 rfl ?_
                refine k_iadd C (dk dX4_firstHeld_0 25 rfl) ?_
                exact k_iret E (dk dX4_firstHeld_0 26 rfl) h
      ·
        refine k_sub C [1, 2, 0] rfl ?_
        exact hJ9 _ _ h
  ·
    refine k_sub C [1, 0] rfl ?_
    exact hJ2 _ _ h
set_option maxRecDepth 100000 in
set_option maxHeartbeats 4000000 in
theorem qX4_worstOf (l : Launch) (g : G) (hg : gOK g) {a1 : Int32}  {s0 σe : St} {v : Int32} (h : mX4_worstOf a1 s0 = some (v, σe)) : Mc l g yX4_worstOf cX4_worstOf 4 (some .int) { frames := 2, cells := 0, slots := 0, locals := 42 } [.ref (g.2.2 42), .int a1] s0 (some (.int v)) σe := by
  refine k_enter hg pnRX4 rfl (Nat.le_of_ble_eq_true rfl) ?_
  intro WK E
  have C := kX_y E
  unfold mX4_worstOf at h
  show WK 0 [(0, .ref (g.2.2 42)), (1, .int a1)] [] s0
  refine k_bipush (v := (-4 : Int32)) C (dk dX4_worstOf_0 0 rfl) (by decide) ?_
  refine k_istore_n (lv' := [(2, .int (-4 : Int32)), (0, .ref (g.2.2 42)), (1, .int a1)]) C (dk dX4_worstOf_0 1 rfl) rfl (by decide) rfl ?_
  refine k_iconst (v := (0 : Int32)) C (dk dX4_worstOf_0 2 rfl) (by decide) ?_
  refine k_istore_n (lv' := [(3, .int (0 : Int32)), (2, .int (-4 : Int32)), (0, .ref (g.2.2 42)), (1, .int a1)]) C (dk dX4_worstOf_0 3 rfl) rfl (by decide) rfl ?_
  refine kl_L (P := (fun J5 => ∀ (y1 : Int32) (y2 : Int32) (s3 : St), J5 y1 y2 s3 = some (v, σe) → WK 5 [(0, .ref (g.2.2 42)), (1, .int a1), (2, .int y1), (3, .int y2)] [] s3)) h (fun _ _ _ h => nomatch h) (fun J5 hJ5 y1 y2 s3 h => ?_) (fun J5 hJ5 h => ?_)
  ·
    unfold mX4_worstOf_5 at h
    refine k_iload_n C (dk dX4_worstOf_0 4 rfl) rfl 3 rfl ?_
    refine k_iconst (v := (5 : Int32)) C (dk dX4_worstOf_0 5 rfl) (by decide) ?_
    refine k_icmp_ge (tgt := 27) C (dk dX4_worstOf_0 6 rfl) (by decide) h (fun h => ?_) (fun h => ?_)
    ·
      refine k_iload_n C (dk dX4_worstOf_0 16 rfl) rfl 2 rfl ?_
      exact k_iret E (dk dX4_worstOf_0 17 rfl) h
    ·
      refine k_iload_n C (dk dX4_worstOf_0 7 rfl) rfl 2 rfl ?_
      refine k_aload_n C (dk dX4_worstOf_0 8 rfl) rfl 0 rfl ?_
      refine k_iload_n C (dk dX4_worstOf_0 9 rfl) rfl 1 rfl ?_
      refine k_iload_n C (dk dX4_worstOf_0 10 rfl) rfl 3 rfl ?_
      refine cl2_k h (fun x5 s4 hc h => ?_)
      refine k_cv (T := TX4) (N := 1) (ci := 2) (ob := 42) (As := [.int a1, .int y2]) (st := [.int y1]) C (qX4_farOf l g hg hc) (iW28 _ (List.mem_of_getElem? (i := 25) rfl)) (iW28 _ (List.mem_of_getElem? (i := 26) rfl)) (iW28 _ (List.mem_of_getElem? (i := 27) rfl)) (iW0 _ (List.mem_of_getElem? (i := 29) rfl)) (iW28 _ (List.mem_of_getElem? (i := 28) rfl)) rfl rfl hdX4_farOf (by decide) rfl (by decide) rfl rfl rfl (Nat.le_of_ble_eq_true rfl) (dk dX4_worstOf_0 11 rfl) ?_
      refine k_mmax C (iW29 _ (List.mem_of_getElem? (i := 11) rfl)) (iW27 _ (List.mem_of_getElem? (i := 21) rfl)) (iW7 _ (List.mem_of_getElem? (i := 17) rfl)) (iW27 _ (List.mem_of_getElem? (i := 22) rfl)) (Nat.le_of_ble_eq_true rfl) (Nat.le_of_ble_eq_true rfl) (dk dX4_worstOf_0 12 rfl) ?_
      refine nmI h (fun x6 h => ?_)
      refine k_istore_n (lv' := [(2, .int x6), (0, .ref (g.2.2 42)), (1, .int a1), (3, .int y2)]) C (dk dX4_worstOf_0 13 rfl) rfl (by decide) rfl ?_
      refine k_iinc (lv' := [(3, .int (y2 + 1)), (2, .int x6), (0, .ref (g.2.2 42)), (1, .int a1)]) C (dk dX4_worstOf_0 14 rfl) (j := 3) rfl rfl (by decide) rfl ?_
      refine k_goto (tgt := 5) C (dk dX4_worstOf_0 15 rfl) (by decide) ?_
      refine k_sub C [2, 3, 1, 0] rfl ?_
      exact hJ5 _ _ _ h
  ·
    refine k_sub C [2, 3, 1, 0] rfl ?_
    exact hJ5 _ _ _ h
set_option maxRecDepth 100000 in
set_option maxHeartbeats 4000000 in
theorem qX4_leastSure (l : Launch) (g : G) (hg : gOK g)   {s0 σe : St} {v : Int32} (h : mX4_leastSure s0 = some (v, σe)) : Mc l g yX4_leastSure cX4_leastSure 4 (some .int) { frames := 3, cells := 0, slots := 0, locals := 65 } [.ref (g.2.2 42)] s0 (some (.int v)) σe := by
  refine k_enter hg pnRX4 rfl (Nat.le_of_ble_eq_true rfl) ?_
  intro WK E
  have C := kX_y E
  unfold mX4_leastSure at h
  show WK 0 [(0, .ref (g.2.2 42))] [] s0
  refine k_bipush (v := (-4 : Int32)) C (dk dX4_leastSure_0 0 rfl) (by decide) ?_
  refine k_istore_n (lv' := [(1, .int (-4 : Int32)), (0, .ref (g.2.2 42))]) C (dk dX4_leastSure_0 1 rfl) rfl (by decide) rfl ?_
  refine k_iconst (v := (0 : Int32)) C (dk dX4_leastSure_0 2 rfl) (by decide) ?_
  refine k_istore_n (lv' := [(2, .int (0 : Int32)), (1, .int (-4 : Int32)), (0, .ref (g.2.2 42))]) C (dk dX4_leastSure_0 3 rfl) rfl (by decide) rfl ?_
  refine kl_L (P := (fun J5 => ∀ (y1 : Int32) (y2 : Int32) (s3 : St), J5 y1 y2 s3 = some (v, σe) → WK 5 [(0, .ref (g.2.2 42)), (1, .int y1), (2, .int y2)] [] s3)) h (fun _ _ _ h => nomatch h) (fun J5 hJ5 y1 y2 s3 h => ?_) (fun J5 hJ5 h => ?_)
  ·
    unfold mX4_leastSure_5 at h
    refine k_iload_n C (dk dX4_leastSure_0 4 rfl) rfl 2 rfl ?_
    refine k_iconst (v := (5 : Int32)) C (dk dX4_leastSure_0 5 rfl) (by decide) ?_
    refine k_icmp_ge (tgt := 41) C (dk dX4_leastSure_0 6 rfl) (by decide) h (fun h => ?_) (fun h => ?_)
    ·
      refine k_iload_n C (dk dX4_leastSure_0 24 rfl) rfl 1 rfl ?_
      exact k_iret E (dk dX4_leastSure_0 25 rfl) h
    ·
      refine k_aload_n C (dk dX4_leastSure_0 7 rfl) rfl 0 rfl ?_
      refine k_iload_n C (dk dX4_leastSure_0 8 rfl) rfl 2 rfl ?_
      refine cl2_k h (fun x5 s4 hc h => ?_)
      refine k_cv (T := TX4) (N := 1) (ci := 2) (ob := 42) (As := [.int y2]) (st := []) C (qX4_worstOf l g hg hc) (iW29 _ (List.mem_of_getElem? (i := 7) rfl)) (iW29 _ (List.mem_of_getElem? (i := 8) rfl)) (iW29 _ (List.mem_of_getElem? (i := 9) rfl)) (iW0 _ (List.mem_of_getElem? (i := 29) rfl)) (iW29 _ (List.mem_of_getElem? (i := 10) rfl)) rfl rfl hdX4_worstOf (by decide) rfl (by decide) rfl rfl rfl (Nat.le_of_ble_eq_true rfl) (dk dX4_leastSure_0 9 rfl) ?_
      refine k_istore_n (lv' := [(3, .int x5), (0, .ref (g.2.2 42)), (1, .int y1), (2, .int y2)]) C (dk dX4_leastSure_0 10 rfl) rfl (by decide) rfl ?_
      refine k_iload_n C (dk dX4_leastSure_0 11 rfl) rfl 0 rfl ?_
      refine k_bipush (v := (-4 : Int32)) C (dk dX4_leastSure_0 12 rfl) (by decide) ?_
      refine kl_J (P := (fun J35 => ∀ (y6 : Int32) (y7 : Int32) (s8 : St), J35 y6 y7 s8 = some (v, σe) → WK 35 [(0, .ref (g.2.2 42)), (1, .int y6), (2, .int y7)] [] s8)) h (fun y6 y7 s8 h => ?_) (fun J35 hJ35 h => ?_)
      ·
        unfold mX4_leastSure_35 at h
        refine k_iinc (lv' := [(2, .int (y7 + 1)), (0, .ref (g.2.2 42)), (1, .int y6)]) C (dk dX4_leastSure_0 22 rfl) (j := 2) rfl rfl (by decide) rfl ?_
        refine k_goto (tgt := 5) C (dk dX4_leastSure_0 23 rfl) (by decide) ?_
        refine k_sub C [1, 2, 0] rfl ?_
        exact hJ5 _ _ _ h
      ·
        refine k_icmp_eq (tgt := 35) C (dk dX4_leastSure_0 13 rfl) (by decide) h (fun h => ?_) (fun h => ?_)
        ·
          refine k_sub C [1, 2, 3] rfl ?_
          exact hJ35 _ _ _ h
        ·
          refine k_iload_n C (dk dX4_leastSure_0 14 rfl) rfl 2 rfl ?_
          refine k_bipush (v := (-4 : Int32)) C (dk dX4_leastSure_0 15 rfl) (by decide) ?_
          refine kl_J (P := (fun J33 => ∀ (s9 : St), J33 s9 = some (v, σe) → WK 33 [(0, .ref (g.2.2 42)), (2, .int y2), (3, .int x5)] [] s9)) h (fun s9 h => ?_) (fun J33 hJ33 h => ?_)
          ·
            unfold mX4_leastSure_33 at h
            refine k_iload_n C (dk dX4_leastSure_0 20 rfl) rfl 2 rfl ?_
            refine k_istore_n (lv' := [(1, .int x5), (0, .ref (g.2.2 42)), (2, .int y2), (3, .int x5)]) C (dk dX4_leastSure_0 21 rfl) rfl (by decide) rfl ?_
            refine k_sub C [1, 0, 2] rfl ?_
            exact hJ35 _ _ _ h
          ·
            refine k_icmp_eq (tgt := 33) C (dk dX4_leastSure_0 16 rfl) (by decide) h (fun h => ?_) (fun h => ?_)
            ·
              refine k_sub C [1, 3, 0] rfl ?_
              exact hJ33 _ h
            ·
              refine k_iload_n C (dk dX4_leastSure_0 17 rfl) rfl 0 rfl ?_
              refine k_iload_n C (dk dX4_leastSure_0 18 rfl) rfl 2 rfl ?_
              refine k_icmp_ge (tgt := 35) C (dk dX4_leastSure_0 19 rfl) (by decide) h (fun h => ?_) (fun h => ?_)
              ·
                refine k_sub C [1, 2, 3] rfl ?_
                exact hJ35 _ _ _ h
              ·
                refine k_sub C [1, 3, 0] rfl ?_
                exact hJ33 _ h
  ·
    refine k_sub C [2, 1, 0] rfl ?_
    exact hJ5 _ _ _ h
set_option maxRecDepth 100000 in
set_option maxHeartbeats 4000000 in
theorem qX5_takeGround (l : Launch) (g : G) (hg : gOK g) {o0 : Nat} {a1 : Int32} {a2 : Int32} (ho0 : kd o0 = 3) {s0 σe : St} (h : mX5_takeGround o0 a1 a2 s0 = some σe) : Mc l g yX5_takeGround cX5_takeGround 3 none { frames := 0, cells := 0, slots := 0, locals := 0 } [.ref (g.2.2 o0), .int a1, .int a2] s0 none σe := by
  refine k_enter hg pnRX5 rfl (Nat.le_of_ble_eq_true rfl) ?_
  intro WK E
  have C := kX_y E
  unfold mX5_takeGround at h
  show WK 0 [(0, .ref (g.2.2 o0)), (1, .int a1), (2, .int a2)] [] s0
  refine k_aload_n C (dk dX5_takeGround_0 0 rfl) rfl 0 rfl ?_
  refine k_iconst (v := (1 : Int32)) C (dk dX5_takeGround_0 1 rfl) (by decide) ?_
  refine k_putI (D := RX5) (T := TX5) (N := 6) (ci := 3) (k := 0) C iCX5 tyX5_ok nmX5 ho0 (by decide) rfl (by decide) (iW2 _ (List.mem_of_getElem? (i := 15) rfl)) rfl rfl flq3_0 flp3_0 (dk dX5_takeGround_0 2 rfl) h (fun s1 h => ?_)
  refine k_aload_n C (dk dX5_takeGround_0 3 rfl) rfl 0 rfl ?_
  refine k_iload_n C (dk dX5_takeGround_0 4 rfl) rfl 1 rfl ?_
  refine k_putI (D := RX5) (T := TX5) (N := 6) (ci := 3) (k := 1) C iCX5 tyX5_ok nmX5 ho0 (by decide) rfl (by decide) (iW2 _ (List.mem_of_getElem? (i := 16) rfl)) rfl rfl flq3_1 flp3_1 (dk dX5_takeGround_0 5 rfl) h (fun s2 h => ?_)
  refine k_aload_n C (dk dX5_takeGround_0 6 rfl) rfl 0 rfl ?_
  refine k_iload_n C (dk dX5_takeGround_0 7 rfl) rfl 2 rfl ?_
  refine k_putI (D := RX5) (T := TX5) (N := 6) (ci := 3) (k := 2) C iCX5 tyX5_ok nmX5 ho0 (by decide) rfl (by decide) (iW2 _ (List.mem_of_getElem? (i := 17) rfl)) rfl rfl flq3_2 flp3_2 (dk dX5_takeGround_0 8 rfl) h (fun s3 h => ?_)
  exact k_vret E (dk dX5_takeGround_0 9 rfl) h
set_option maxRecDepth 100000 in
set_option maxHeartbeats 4000000 in
theorem qX5_takeRow (l : Launch) (g : G) (hg : gOK g) {o0 : Nat} {a1 : Int32} {a2 : Int32} (ho0 : kd o0 = 3) {s0 σe : St} (h : mX5_takeRow o0 a1 a2 s0 = some σe) : Mc l g yX5_takeRow cX5_takeRow 3 none { frames := 1, cells := 0, slots := 0, locals := 24 } [.ref (g.2.2 o0), .int a1, .int a2] s0 none σe := by
  refine k_enter hg pnRX5 rfl (Nat.le_of_ble_eq_true rfl) ?_
  intro WK E
  have C := kX_y E
  unfold mX5_takeRow at h
  show WK 0 [(0, .ref (g.2.2 o0)), (1, .int a1), (2, .int a2)] [] s0
  refine k_aload_n C (dk dX5_takeRow_0 0 rfl) rfl 0 rfl ?_
  refine k_iconst (v := (2 : Int32)) C (dk dX5_takeRow_0 1 rfl) (by decide) ?_
  refine k_putI (D := RX5) (T := TX5) (N := 6) (ci := 3) (k := 0) C iCX5 tyX5_ok nmX5 ho0 (by decide) rfl (by decide) (iW2 _ (List.mem_of_getElem? (i := 15) rfl)) rfl rfl flq3_0 flp3_0 (dk dX5_takeRow_0 2 rfl) h (fun s1 h => ?_)
  refine k_aload_n C (dk dX5_takeRow_0 3 rfl) rfl 0 rfl ?_
  refine k_iload_n C (dk dX5_takeRow_0 4 rfl) rfl 1 rfl ?_
  refine k_putI (D := RX5) (T := TX5) (N := 6) (ci := 3) (k := 3) C iCX5 tyX5_ok nmX5 ho0 (by decide) rfl (by decide) (iW2 _ (List.mem_of_getElem? (i := 18) rfl)) rfl rfl flq3_3 flp3_3 (dk dX5_takeRow_0 5 rfl) h (fun s2 h => ?_)
  refine k_aload_n C (dk dX5_takeRow_0 6 rfl) rfl 0 rfl ?_
  refine k_iload_n C (dk dX5_takeRow_0 7 rfl) rfl 2 rfl ?_
  refine k_putI (D := RX5) (T := TX5) (N := 6) (ci := 3) (k := 4) C iCX5 tyX5_ok nmX5 ho0 (by decide) rfl (by decide) (iW2 _ (List.mem_of_getElem? (i := 19) rfl)) rfl rfl flq3_4 flp3_4 (dk dX5_takeRow_0 8 rfl) h (fun s3 h => ?_)
  refine k_aload_n C (dk dX5_takeRow_0 9 rfl) rfl 0 rfl ?_
  refine k_getR (q := (o0 + 9)) (D := RX5) (T := TX5) (N := 6) (ci := 3) (k := 5) C iCX5 ho0 (by decide) rfl (by decide) (iW2 _ (List.mem_of_getElem? (i := 20) rfl)) rfl (dk dX5_takeRow_0 10 rfl) ?_
  refine k_lconst (v := (0 : Int64)) C (dk dX5_takeRow_0 11 rfl) (by decide) ?_
  refine cl1_k h (fun s4 hc h => ?_)
  refine k_cs (As := [.ref (g.2.2 (o0 + 9)), .long (0 : Int64)]) (st := []) C (qJ7_fill_d0a16 l g hg (kd_S9 ho0) hc) (iW35 _ (List.mem_of_getElem? (i := 29) rfl)) (iW20 _ (List.mem_of_getElem? (i := 10) rfl)) (iW20 _ (List.mem_of_getElem? (i := 7) rfl)) (iW20 _ (List.mem_of_getElem? (i := 11) rfl)) rfl rfl hdJ7_fill_d0a16 (by decide) rfl rfl (Nat.le_of_ble_eq_true rfl) (dk dX5_takeRow_0 12 rfl) ?_
  exact k_vret E (dk dX5_takeRow_0 13 rfl) h
set_option maxRecDepth 100000 in
set_option maxHeartbeats 4000000 in
theorem qX5_hasPlace (l : Launch) (g : G) (hg : gOK g) {o0 : Nat} {a1 : Int32} (ho0 : kd o0 = 3) {s0 σe : St} {v : Int32} (h : mX5_hasPlace o0 a1 s0 = some (v, σe)) : Mc l g yX5_hasPlace cX5_hasPlace 2 (some .boolean) { frames := 0, cells := 0, slots := 0, locals := 0 } [.ref (g.2.2 o0), .int a1] s0 (some (.int v)) σe := by
  refine k_enter hg pnRX5 rfl (Nat.le_of_ble_eq_true rfl) ?_
  intro WK E
  have C := kX_y E
  unfold mX5_hasPlace at h
  show WK 0 [(0, .ref (g.2.2 o0)), (1, .int a1)] [] s0
  refine k_iload_n C (dk dX5_hasPlace_0 0 rfl) rfl 1 rfl ?_
  refine k_if_lt (tgt := 16) C (dk dX5_hasPlace_0 1 rfl) (by decide) h (fun h => ?_) (fun h => ?_)
  ·
    refine k_iconst (v := (0 : Int32)) C (dk dX5_hasPlace_0 8 rfl) (by decide) ?_
    exact k_zret E (dk dX5_hasPlace_0 9 rfl) h
  ·
    refine k_iload_n C (dk dX5_hasPlace_0 2 rfl) rfl 1 rfl ?_
    refine k_aload_n C (dk dX5_hasPlace_0 3 rfl) rfl 0 rfl ?_
    refine k_getI (D := RX5) (T := TX5) (N := 6) (ci := 3) (k := 4) C iCX5 ho0 (by decide) rfl (by decide) (iW2 _ (List.mem_of_getElem? (i := 19) rfl)) rfl (dk dX5_hasPlace_0 4 rfl) h (fun x1 h => ?_)
    refine k_icmp_ge (tgt := 16) C (dk dX5_hasPlace_0 5 rfl) (by decide) h (fun h => ?_) (fun h => ?_)
    ·
      refine k_iconst (v := (0 : Int32)) C (dk dX5_hasPlace_0 8 rfl) (by decide) ?_
      exact k_zret E (dk dX5_hasPlace_0 9 rfl) h
    ·
      refine k_iconst (v := (1 : Int32)) C (dk dX5_hasPlace_0 6 rfl) (by decide) ?_
      refine k_goto (tgt := 17) C (dk dX5_hasPlace_0 7 rfl) (by decide) ?_
      exact k_zret E (dk dX5_hasPlace_0 9 rfl) h
set_option maxRecDepth 100000 in
set_option maxHeartbeats 4000000 in
theorem qX5_hasPlaces (l : Launch) (g : G) (hg : gOK g) {o0 : Nat} {a1 : Int32} {a2 : Int32} (ho0 : kd o0 = 3) {s0 σe : St} {v : Int32} (h : mX5_hasPlaces o0 a1 a2 s0 = some (v, σe)) : Mc l g yX5_hasPlaces cX5_hasPlaces 3 (some .boolean) { frames := 0, cells := 0, slots := 0, locals := 0 } [.ref (g.2.2 o0), .int a1, .int a2] s0 (some (.int v)) σe := by
  refine k_enter hg pnRX5 rfl (Nat.le_of_ble_eq_true rfl) ?_
  intro WK E
  have C := kX_y E
  unfold mX5_hasPlaces at h
  show WK 0 [(0, .ref (g.2.2 o0)), (1, .int a1), (2, .int a2)] [] s0
  refine k_iload_n C (dk dX5_hasPlaces_0 0 rfl) rfl 1 rfl ?_
  refine k_if_lt (tgt := 30) C (dk dX5_hasPlaces_0 1 rfl) (by decide) h (fun h => ?_) (fun h => ?_)
  ·
    refine k_iconst (v := (0 : Int32)) C (dk dX5_hasPlaces_0 16 rfl) (by decide) ?_
    exact k_zret E (dk dX5_hasPlaces_0 17 rfl) h
  ·
    refine k_iload_n C (dk dX5_hasPlaces_0 2 rfl) rfl 2 rfl ?_
    refine k_if_lt (tgt := 30) C (dk dX5_hasPlaces_0 3 rfl) (by decide) h (fun h => ?_) (fun h => ?_)
    ·
      refine k_iconst (v := (0 : Int32)) C (dk dX5_hasPlaces_0 16 rfl) (by decide) ?_
      exact k_zret E (dk dX5_hasPlaces_0 17 rfl) h
    ·
      refine k_iload_n C (dk dX5_hasPlaces_0 4 rfl) rfl 1 rfl ?_
      refine k_aload_n C (dk dX5_hasPlaces_0 5 rfl) rfl 0 rfl ?_
      refine k_getI (D := RX5) (T := TX5) (N := 6) (ci := 3) (k := 4) C iCX5 ho0 (by decide) rfl (by decide) (iW2 _ (List.mem_of_getElem? (i := 19) rfl)) rfl (dk dX5_hasPlaces_0 6 rfl) h (fun x1 h => ?_)
      refine k_icmp_gt (tgt := 30) C (dk dX5_hasPlaces_0 7 rfl) (by decide) h (fun h => ?_) (fun h => ?_)
      ·
        refine k_iconst (v := (0 : Int32)) C (dk dX5_hasPlaces_0 16 rfl) (by decide) ?_
        exact k_zret E (dk dX5_hasPlaces_0 17 rfl) h
      ·
        refine k_iload_n C (dk dX5_hasPlaces_0 8 rfl) rfl 2 rfl ?_
        refine k_aload_n C (dk dX5_hasPlaces_0 9 rfl) rfl 0 rfl ?_
        refine k_getI (D := RX5) (T := TX5) (N := 6) (ci := 3) (k := 4) C iCX5 ho0 (by decide) rfl (by decide) (iW2 _ (List.mem_of_getElem? (i := 19) rfl)) rfl (dk dX5_hasPlaces_0 10 rfl) h (fun x2 h => ?_)
        refine k_iload_n C (dk dX5_hasPlaces_0 11 rfl) rfl 1 rfl ?_
        refine k_isub C (dk dX5_hasPlaces_0 12 rfl) ?_
        refine k_icmp_gt (tgt := 30) C (dk dX5_hasPlaces_0 13 rfl) (by decide) h (fun h => ?_) (fun h => ?_)
        ·
          refine k_iconst (v := (0 : Int32)) C (dk dX5_hasPlaces_0 16 rfl) (by decide) ?_
          exact k_zret E (dk dX5_hasPlaces_0 17 rfl) h
        ·
          refine k_iconst (v := (1 : Int32)) C (dk dX5_hasPlaces_0 14 rfl) (by decide) ?_
          refine k_goto (tgt := 31) C (dk dX5_hasPlaces_0 15 rfl) (by decide) ?_
          exact k_zret E (dk dX5_hasPlaces_0 17 rfl) h
set_option maxRecDepth 100000 in
set_option maxHeartbeats 4000000 in
theorem qX5_numberAt (l : Launch) (g : G) (hg : gOK g) {o0 : Nat} {a1 : Int32} (ho0 : kd o0 = 3) {s0 σe : St} {v : Int64} (h : mX5_numberAt o0 a1 s0 = some (v, σe)) : Mc l g yX5_numberAt cX5_numberAt 2 (some .long) { frames := 0, cells := 0, slots := 0, locals := 0 } [.ref (g.2.2 o0), .int a1] s0 (some (.long v)) σe := by
  refine k_enter hg pnRX5 rfl (Nat.le_of_ble_eq_true rfl) ?_
  intro WK E
  have C := kX_y E
  unfold mX5_numberAt at h
  show WK 0 [(0, .ref (g.2.2 o0)), (1, .int a1)] [] s0
  refine k_iload_n C (dk dX5_numberAt_0 0 rfl) rfl 1 rfl ?_
  refine k_if_lt (tgt := 30) C (dk dX5_numberAt_0 1 rfl) (by decide) h (fun h => ?_) (fun h => ?_)
  ·
    refine k_lconst (v := (0 : Int64)) C (dk dX5_numberAt_0 16 rfl) (by decide) ?_
    exact k_lret E (dk dX5_numberAt_0 17 rfl) h
  ·
    refine k_iload_n C (dk dX5_numberAt_0 2 rfl) rfl 1 rfl ?_
    refine k_aload_n C (dk dX5_numberAt_0 3 rfl) rfl 0 rfl ?_
    refine k_getI (D := RX5) (T := TX5) (N := 6) (ci := 3) (k := 4) C iCX5 ho0 (by decide) rfl (by decide) (iW2 _ (List.mem_of_getElem? (i := 19) rfl)) rfl (dk dX5_numberAt_0 4 rfl) h (fun x1 h => ?_)
    refine k_icmp_ge (tgt := 30) C (dk dX5_numberAt_0 5 rfl) (by decide) h (fun h => ?_) (fun h => ?_)
    ·
      refine k_lconst (v := (0 : Int64)) C (dk dX5_numberAt_0 16 rfl) (by decide) ?_
      exact k_lret E (dk dX5_numberAt_0 17 rfl) h
    ·
      refine k_iload_n C (dk dX5_numberAt_0 6 rfl) rfl 1 rfl ?_
      refine k_aload_n C (dk dX5_numberAt_0 7 rfl) rfl 0 rfl ?_
      refine k_getR (q := (o0 + 9)) (D := RX5) (T := TX5) (N := 6) (ci := 3) (k := 5) C iCX5 ho0 (by decide) rfl (by decide) (iW2 _ (List.mem_of_getElem? (i := 20) rfl)) rfl (dk dX5_numberAt_0 8 rfl) ?_
      refine k_alenL (v := (100 : Int32)) C (kd_S9 ho0) (ln_S9 ho0) (by decide) (dk dX5_numberAt_0 9 rfl) ?_
      refine k_icmp_ge (tgt := 30) C (dk dX5_numberAt_0 10 rfl) (by decide) h (fun h => ?_) (fun h => ?_)
      ·
        refine k_lconst (v := (0 : Int64)) C (dk dX5_numberAt_0 16 rfl) (by decide) ?_
        exact k_lret E (dk dX5_numberAt_0 17 rfl) h
      ·
        refine k_aload_n C (dk dX5_numberAt_0 11 rfl) rfl 0 rfl ?_
        refine k_getR (q := (o0 + 9)) (D := RX5) (T := TX5) (N := 6) (ci := 3) (k := 5) C iCX5 ho0 (by decide) rfl (by decide) (iW2 _ (List.mem_of_getElem? (i := 20) rfl)) rfl (dk dX5_numberAt_0 12 rfl) ?_
        refine k_iload_n C (dk dX5_numberAt_0 13 rfl) rfl 1 rfl ?_
        refine k_lald C (kd_S9 ho0) (ln_S9 ho0) (dk dX5_numberAt_0 14 rfl) h (fun x2 h => ?_)
        refine k_goto (tgt := 31) C (dk dX5_numberAt_0 15 rfl) (by decide) ?_
        exact k_lret E (dk dX5_numberAt_0 17 rfl) h
set_option maxRecDepth 100000 in
set_option maxHeartbeats 4000000 in
theorem qX5_write (l : Launch) (g : G) (hg : gOK g) {o0 : Nat} {a1 : Int32} {a2 : Int32} (ho0 : kd o0 = 3) {s0 σe : St} (h : mX5_write o0 a1 a2 s0 = some σe) : Mc l g yX5_write cX5_write 3 none { frames := 0, cells := 0, slots := 0, locals := 0 } [.ref (g.2.2 o0), .int a1, .int a2] s0 none σe := by
  refine k_enter hg pnRX5 rfl (Nat.le_of_ble_eq_true rfl) ?_
  intro WK E
  have C := kX_y E
  unfold mX5_write at h
  show WK 0 [(0, .ref (g.2.2 o0)), (1, .int a1), (2, .int a2)] [] s0
  refine k_iload_n C (dk dX5_write_0 0 rfl) rfl 1 rfl ?_
  refine k_if_lt (tgt := 42) C (dk dX5_write_0 1 rfl) (by decide) h (fun h => ?_) (fun h => ?_)
  ·
    exact k_vret E (dk dX5_write_0 24 rfl) h
  ·
    refine k_iload_n C (dk dX5_write_0 2 rfl) rfl 1 rfl ?_
    refine k_aload_n C (dk dX5_write_0 3 rfl) rfl 0 rfl ?_
    refine k_getI (D := RX5) (T := TX5) (N := 6) (ci := 3) (k := 4) C iCX5 ho0 (by decide) rfl (by decide) (iW2 _ (List.mem_of_getElem? (i := 19) rfl)) rfl (dk dX5_write_0 4 rfl) h (fun x1 h => ?_)
    refine k_icmp_ge (tgt := 42) C (dk dX5_write_0 5 rfl) (by decide) h (fun h => ?_) (fun h => ?_)
    ·
      exact k_vret E (dk dX5_write_0 24 rfl) h
    ·
      refine k_iload_n C (dk dX5_write_0 6 rfl) rfl 1 rfl ?_
      refine k_aload_n C (dk dX5_write_0 7 rfl) rfl 0 rfl ?_
      refine k_getR (q := (o0 + 9)) (D := RX5) (T := TX5) (N := 6) (ci := 3) (k := 5) C iCX5 ho0 (by decide) rfl (by decide) (iW2 _ (List.mem_of_getElem? (i := 20) rfl)) rfl (dk dX5_write_0 8 rfl) ?_
      refine k_alenL (v := (100 : Int32)) C (kd_S9 ho0) (ln_S9 ho0) (by decide) (dk dX5_write_0 9 rfl) ?_
      refine k_icmp_ge (tgt := 42) C (dk dX5_write_0 10 rfl) (by decide) h (fun h => ?_) (fun h => ?_)
      ·
        exact k_vret E (dk dX5_write_0 24 rfl) h
      ·
        refine k_aload_n C (dk dX5_write_0 11 rfl) rfl 0 rfl ?_
        refine k_getR (q := (o0 + 9)) (D := RX5) (T := TX5) (N := 6) (ci := 3) (k := 5) C iCX5 ho0 (by decide) rfl (by decide) (iW2 _ (List.mem_of_getElem? (i := 20) rfl)) rfl (dk dX5_write_0 12 rfl) ?_
        refine k_iload_n C (dk dX5_write_0 13 rfl) rfl 1 rfl ?_
        refine k_aload_n C (dk dX5_write_0 14 rfl) rfl 0 rfl ?_
        refine k_getI (D := RX5) (T := TX5) (N := 6) (ci := 3) (k := 3) C iCX5 ho0 (by decide) rfl (by decide) (iW2 _ (List.mem_of_getElem? (i := 18) rfl)) rfl (dk dX5_write_0 15 rfl) h (fun x2 h => ?_)
        refine kl_J (P := (fun J41 => ∀ (y3 : Int64) (s4 : St), J41 y3 s4 = some σe → WK 41 [] [.long y3, .int a1, .ref (g.2.2 (o0 + 9))] s4)) h (fun y3 s4 h => ?_) (fun J41 hJ41 h => ?_)
        ·
          unfold mX5_write_41 at h
          refine k_last C (kd_S9 ho0) (ln_S9 ho0) (dk dX5_write_0 23 rfl) h (fun s5 h => ?_)
          exact k_vret E (dk dX5_write_0 24 rfl) h
        ·
          refine k_if_ne (tgt := 39) C (dk dX5_write_0 16 rfl) (by decide) h (fun h => ?_) (fun h => ?_)
          ·
            refine k_iload_n C (dk dX5_write_0 21 rfl) rfl 2 rfl ?_
            refine k_i2l C (dk dX5_write_0 22 rfl) ?_
            refine k_sub C [] rfl ?_
            exact hJ41 _ _ h
          ·
            refine k_iload_n C (dk dX5_write_0 17 rfl) rfl 2 rfl ?_
            refine k_i2b C (dk dX5_write_0 18 rfl) ?_
            refine k_i2l C (dk dX5_write_0 19 rfl) ?_
            refine k_goto (tgt := 41) C (dk dX5_write_0 20 rfl) (by decide) ?_
            refine k_sub C [] rfl ?_
            exact hJ41 _ _ h
set_option maxRecDepth 100000 in
set_option maxHeartbeats 4000000 in
theorem qX5_leastNumber (l : Launch) (g : G) (hg : gOK g) {o0 : Nat} (ho0 : kd o0 = 3) {s0 σe : St} {v : Int64} (h : mX5_leastNumber o0 s0 = some (v, σe)) : Mc l g yX5_leastNumber cX5_leastNumber 1 (some .long) { frames := 0, cells := 0, slots := 0, locals := 0 } [.ref (g.2.2 o0)] s0 (some (.long v)) σe := by
  refine k_enter hg pnRX5 rfl (Nat.le_of_ble_eq_true rfl) ?_
  intro WK E
  have C := kX_y E
  unfold mX5_leastNumber at h
  show WK 0 [(0, .ref (g.2.2 o0))] [] s0
  refine k_aload_n C (dk dX5_leastNumber_0 0 rfl) rfl 0 rfl ?_
  refine k_getI (D := RX5) (T := TX5) (N := 6) (ci := 3) (k := 3) C iCX5 ho0 (by decide) rfl (by decide) (iW2 _ (List.mem_of_getElem? (i := 18) rfl)) rfl (dk dX5_leastNumber_0 1 rfl) h (fun x1 h => ?_)
  by_cases e0 : x1 = (0 : Int32)
  · replace h := (if_pos e0).symm.trans h
    refine k_ls (off := 28) (tgt := 32) C (dk dX5_leastNumber_0 2 rfl) rfl (by rw [e0]; decide) (by decide) ?_
    refine k_ldc2 (v := (-128 : Int64)) C (dk dX5_leastNumber_0 3 rfl) (iW32 _ (List.mem_of_getElem? (i := 21) rfl)) ?_
    exact k_lret E (dk dX5_leastNumber_0 4 rfl) h
  replace h := (if_neg e0).symm.trans h
  by_cases e1 : x1 = (1 : Int32)
  · replace h := (if_pos e1).symm.trans h
    refine k_ls (off := 32) (tgt := 36) C (dk dX5_leastNumber_0 2 rfl) rfl (by rw [e1]; decide) (by decide) ?_
    refine k_ldc2 (v := (-2147483648 : Int64)) C (dk dX5_leastNumber_0 5 rfl) (iW32 _ (List.mem_of_getElem? (i := 22) rfl)) ?_
    exact k_lret E (dk dX5_leastNumber_0 6 rfl) h
  replace h := (if_neg e1).symm.trans h
  refine k_ls (off := 36) (tgt := 40) C (dk dX5_leastNumber_0 2 rfl) rfl (by have n0 : x1.toInt ≠ 0 := fun q => e0 (Int32.toInt_inj.mp (q.trans (by decide))); have n1 : x1.toInt ≠ 1 := fun q => e1 (Int32.toInt_inj.mp (q.trans (by decide))); simp [Op.lookupswitch.offset, n0, Ne.symm n0, n1, Ne.symm n1]) (by decide) ?_
  refine k_ldc2 (v := (-9223372036854775808 : Int64)) C (dk dX5_leastNumber_0 7 rfl) (iW32 _ (List.mem_of_getElem? (i := 23) rfl)) ?_
  exact k_lret E (dk dX5_leastNumber_0 8 rfl) h
set_option maxRecDepth 100000 in
set_option maxHeartbeats 4000000 in
theorem qX6_passableOf (l : Launch) (g : G) (hg : gOK g) {a0 : Int64} {a2 : Int32}  {s0 σe : St} {v : Int64} (h : mX6_passableOf a0 a2 s0 = some (v, σe)) : Mc l g yX6_passableOf cX6_passableOf 7 (some .long) { frames := 2, cells := 0, slots := 0, locals := 42 } [.long a0, .int a2] s0 (some (.long v)) σe := by
  refine k_enter hg pnRX6 rfl (Nat.le_of_ble_eq_true rfl) ?_
  intro WK E
  have C := kX_y E
  unfold mX6_passableOf at h
  show WK 0 [(0, .long a0), (2, .int a2)] [] s0
  refine k_lconst (v := (0 : Int64)) C (dk dX6_passableOf_0 0 rfl) (by decide) ?_
  refine k_lstore_n (lv' := [(3, .long (0 : Int64)), (0, .long a0), (2, .int a2)]) C (dk dX6_passableOf_0 1 rfl) rfl (by decide) rfl ?_
  refine k_iconst (v := (0 : Int32)) C (dk dX6_passableOf_0 2 rfl) (by decide) ?_
  refine k_istore (lv' := [(5, .int (0 : Int32)), (3, .long (0 : Int64)), (0, .long a0), (2, .int a2)]) C (dk dX6_passableOf_0 3 rfl) (by decide) rfl ?_
  refine k_iconst (v := (0 : Int32)) C (dk dX6_passableOf_0 4 rfl) (by decide) ?_
  refine k_istore (lv' := [(6, .int (0 : Int32)), (5, .int (0 : Int32)), (3, .long (0 : Int64)), (0, .long a0), (2, .int a2)]) C (dk dX6_passableOf_0 5 rfl) (by decide) rfl ?_
  refine kl_L (P := (fun J8 => ∀ (y1 : Int64) (y2 : Int32) (y3 : Int32) (s4 : St), J8 y1 y2 y3 s4 = some (v, σe) → WK 8 [(0, .long a0), (2, .int a2), (3, .long y1), (5, .int y2), (6, .int y3)] [] s4)) h (fun _ _ _ _ h => nomatch h) (fun J8 hJ8 y1 y2 y3 s4 h => ?_) (fun J8 hJ8 h => ?_)
  ·
    unfold mX6_passableOf_8 at h
    refine k_iload C (dk dX6_passableOf_0 6 rfl) 4 rfl ?_
    refine k_bipush (v := (36 : Int32)) C (dk dX6_passableOf_0 7 rfl) (by decide) ?_
    refine k_icmp_ge (tgt := 51) C (dk dX6_passableOf_0 8 rfl) (by decide) h (fun h => ?_) (fun h => ?_)
    ·
      refine k_lload_n C (dk dX6_passableOf_0 28 rfl) rfl 2 rfl ?_
      exact k_lret E (dk dX6_passableOf_0 29 rfl) h
    ·
      refine k_lload_n C (dk dX6_passableOf_0 9 rfl) rfl 0 rfl ?_
      refine k_iload C (dk dX6_passableOf_0 10 rfl) 4 rfl ?_
      refine cl2_k h (fun x6 s5 hc h => ?_)
      refine k_cs (As := [.long a0, .int y3]) (st := []) C (qX7_has l g hg hc) (iW30 _ (List.mem_of_getElem? (i := 18) rfl)) (iW14 _ (List.mem_of_getElem? (i := 22) rfl)) (iW7 _ (List.mem_of_getElem? (i := 4) rfl)) (iW14 _ (List.mem_of_getElem? (i := 23) rfl)) rfl rfl hdX7_has (by decide) rfl rfl (Nat.le_of_ble_eq_true rfl) (dk dX6_passableOf_0 11 rfl) ?_
      refine kl_J (P := (fun J45 => ∀ (y7 : Int64) (y8 : Int32) (y9 : Int32) (s10 : St), J45 y7 y8 y9 s10 = some (v, σe) → WK 45 [(0, .long a0), (2, .int a2), (3, .long y7), (5, .int y8), (6, .int y9)] [] s10)) h (fun y7 y8 y9 s10 h => ?_) (fun J45 hJ45 h => ?_)
      ·
        unfold mX6_passableOf_45 at h
        refine k_iinc (lv' := [(6, .int (y9 + 1)), (0, .long a0), (2, .int a2), (3, .long y7), (5, .int y8)]) C (dk dX6_passableOf_0 26 rfl) (j := 4) rfl rfl (by decide) rfl ?_
        refine k_goto (tgt := 8) C (dk dX6_passableOf_0 27 rfl) (by decide) ?_
        refine k_sub C [1, 2, 3, 4, 0] rfl ?_
        exact hJ8 _ _ _ _ h
      ·
        refine k_if_eq (tgt := 45) C (dk dX6_passableOf_0 12 rfl) (by decide) h (fun h => ?_) (fun h => ?_)
        ·
          exact hJ45 _ _ _ _ h
        ·
          refine k_iload_n C (dk dX6_passableOf_0 13 rfl) rfl 1 rfl ?_
          refine k_iload C (dk dX6_passableOf_0 14 rfl) 3 rfl ?_
          refine k_ishr C (dk dX6_passableOf_0 15 rfl) ?_
          refine k_iconst (v := (1 : Int32)) C (dk dX6_passableOf_0 16 rfl) (by decide) ?_
          refine k_iand C (dk dX6_passableOf_0 17 rfl) ?_
          refine k_iconst (v := (1 : Int32)) C (dk dX6_passableOf_0 18 rfl) (by decide) ?_
          refine kl_J (P := (fun J42 => ∀ (y11 : Int64) (y12 : Int32) (s13 : St), J42 y11 y12 s13 = some (v, σe) → WK 42 [(0, .long a0), (2, .int a2), (3, .long y11), (5, .int y12), (6, .int y3)] [] s13)) h (fun y11 y12 s13 h => ?_) (fun J42 hJ42 h => ?_)
          ·
            unfold mX6_passableOf_42 at h
            refine k_iinc (lv' := [(5, .int (y12 + 1)), (0, .long a0), (2, .int a2), (3, .long y11), (6, .int y3)]) C (dk dX6_passableOf_0 25 rfl) (j := 3) rfl rfl (by decide) rfl ?_
            refine k_sub C [1, 2, 3, 0, 4] rfl ?_
            exact hJ45 _ _ _ _ h
          ·
            refine k_icmp_ne (tgt := 42) C (dk dX6_passableOf_0 19 rfl) (by decide) h (fun h => ?_) (fun h => ?_)
            ·
              exact hJ42 _ _ _ h
            ·
              refine k_lload_n C (dk dX6_passableOf_0 20 rfl) rfl 2 rfl ?_
              refine k_iload C (dk dX6_passableOf_0 21 rfl) 4 rfl ?_
              refine cl2_k h (fun x15 s14 hc h => ?_)
              refine k_cs (As := [.int y3]) (st := [.long y1]) C (qX7_bit l g hg hc) (iW30 _ (List.mem_of_getElem? (i := 19) rfl)) (iW14 _ (List.mem_of_getElem? (i := 15) rfl)) (iW7 _ (List.mem_of_getElem? (i := 4) rfl)) (iW14 _ (List.mem_of_getElem? (i := 16) rfl)) rfl rfl hdX7_bit (by decide) rfl rfl (Nat.le_of_ble_eq_true rfl) (dk dX6_passableOf_0 22 rfl) ?_
              refine k_lor C (dk dX6_passableOf_0 23 rfl) ?_
              refine nmL h (fun x16 h => ?_)
              refine k_lstore_n (lv' := [(3, .long x16), (0, .long a0), (2, .int a2), (5, .int y2), (6, .int y3)]) C (dk dX6_passableOf_0 24 rfl) rfl (by decide) rfl ?_
              refine k_sub C [1, 2, 0, 3, 4] rfl ?_
              exact hJ42 _ _ _ h
  ·
    refine k_sub C [3, 4, 2, 1, 0] rfl ?_
    exact hJ8 _ _ _ _ h
set_option maxRecDepth 100000 in
set_option maxHeartbeats 4000000 in
theorem qX7_stepsBetween (l : Launch) (g : G) (hg : gOK g) {a0 : Int32} {a1 : Int32} {a2 : Int64}  {s0 σe : St} {v : Int32} (h : mX7_stepsBetween a0 a1 a2 s0 = some (v, σe)) : Mc l g yX7_stepsBetween cX7_stepsBetween 7 (some .int) { frames := 2, cells := 0, slots := 0, locals := 42 } [.int a0, .int a1, .long a2] s0 (some (.int v)) σe := by
  refine k_enter hg pnRX7 rfl (Nat.le_of_ble_eq_true rfl) ?_
  intro WK E
  have C := kX_y E
  unfold mX7_stepsBetween at h
  show WK 0 [(0, .int a0), (1, .int a1), (2, .long a2)] [] s0
  refine k_iload_n C (dk dX7_stepsBetween_0 0 rfl) rfl 0 rfl ?_
  refine cl2_k h (fun x2 s1 hc h => ?_)
  refine k_cs (As := [.int a0]) (st := []) C (qX7_bit l g hg hc) (iW14 _ (List.mem_of_getElem? (i := 20) rfl)) (iW14 _ (List.mem_of_getElem? (i := 15) rfl)) (iW7 _ (List.mem_of_getElem? (i := 4) rfl)) (iW14 _ (List.mem_of_getElem? (i := 16) rfl)) rfl rfl hdX7_bit (by decide) rfl rfl (Nat.le_of_ble_eq_true rfl) (dk dX7_stepsBetween_0 1 rfl) ?_
  refine k_lload_n C (dk dX7_stepsBetween_0 2 rfl) rfl 2 rfl ?_
  refine k_land C (dk dX7_stepsBetween_0 3 rfl) ?_
  refine nmL h (fun x3 h => ?_)
  refine k_lstore (lv' := [(4, .long x3), (0, .int a0), (1, .int a1), (2, .long a2)]) C (dk dX7_stepsBetween_0 4 rfl) (by decide) rfl ?_
  refine k_iconst (v := (0 : Int32)) C (dk dX7_stepsBetween_0 5 rfl) (by decide) ?_
  refine k_istore (lv' := [(6, .int (0 : Int32)), (4, .long x3), (0, .int a0), (1, .int a1), (2, .long a2)]) C (dk dX7_stepsBetween_0 6 rfl) (by decide) rfl ?_
  refine kl_L (P := (fun J11 => ∀ (y4 : Int64) (y5 : Int32) (s6 : St), J11 y4 y5 s6 = some (v, σe) → WK 11 [(1, .int a1), (2, .long a2), (4, .long y4), (6, .int y5)] [] s6)) h (fun _ _ _ h => nomatch h) (fun J11 hJ11 y4 y5 s6 h => ?_) (fun J11 hJ11 h => ?_)
  ·
    unfold mX7_stepsBetween_11 at h
    refine k_iload C (dk dX7_stepsBetween_0 7 rfl) 3 rfl ?_
    refine k_bipush (v := (36 : Int32)) C (dk dX7_stepsBetween_0 8 rfl) (by decide) ?_
    refine k_icmp_ge (tgt := 45) C (dk dX7_stepsBetween_0 9 rfl) (by decide) h (fun h => ?_) (fun h => ?_)
    ·
      refine k_bipush (v := (-4 : Int32)) C (dk dX7_stepsBetween_0 23 rfl) (by decide) ?_
      exact k_iret E (dk dX7_stepsBetween_0 24 rfl) h
    ·
      refine k_lload C (dk dX7_stepsBetween_0 10 rfl) 2 rfl ?_
      refine k_iload_n C (dk dX7_stepsBetween_0 11 rfl) rfl 0 rfl ?_
      refine cl2_k h (fun x8 s7 hc h => ?_)
      refine k_cs (As := [.long y4, .int a1]) (st := []) C (qX7_has l g hg hc) (iW14 _ (List.mem_of_getElem? (i := 21) rfl)) (iW14 _ (List.mem_of_getElem? (i := 22) rfl)) (iW7 _ (List.mem_of_getElem? (i := 4) rfl)) (iW14 _ (List.mem_of_getElem? (i := 23) rfl)) rfl rfl hdX7_has (by decide) rfl rfl (Nat.le_of_ble_eq_true rfl) (dk dX7_stepsBetween_0 12 rfl) ?_
      refine k_if_eq (tgt := 30) C (dk dX7_stepsBetween_0 13 rfl) (by decide) h (fun h => ?_) (fun h => ?_)
      ·
        refine k_lload C (dk dX7_stepsBetween_0 16 rfl) 2 rfl ?_
        refine cl2_k h (fun x10 s9 hc h => ?_)
        refine k_cs (As := [.long y4]) (st := []) C (qX7_spread l g hg hc) (iW14 _ (List.mem_of_getElem? (i := 24) rfl)) (iW14 _ (List.mem_of_getElem? (i := 25) rfl)) (iW7 _ (List.mem_of_getElem? (i := 4) rfl)) (iW14 _ (List.mem_of_getElem? (i := 26) rfl)) rfl rfl hdX7_spread (by decide) rfl rfl (Nat.le_of_ble_eq_true rfl) (dk dX7_stepsBetween_0 17 rfl) ?_
        refine k_lload_n C (dk dX7_stepsBetween_0 18 rfl) rfl 1 rfl ?_
        refine k_land C (dk dX7_stepsBetween_0 19 rfl) ?_
        refine nmL h (fun x11 h => ?_)
        refine k_lstore (lv' := [(4, .long x11), (1, .int a1), (2, .long a2), (6, .int y5)]) C (dk dX7_stepsBetween_0 20 rfl) (by decide) rfl ?_
        refine k_iinc (lv' := [(6, .int (y5 + 1)), (4, .long x11), (1, .int a1), (2, .long a2)]) C (dk dX7_stepsBetween_0 21 rfl) (j := 3) rfl rfl (by decide) rfl ?_
        refine k_goto (tgt := 11) C (dk dX7_stepsBetween_0 22 rfl) (by decide) ?_
        refine k_sub C [2, 3, 1, 0] rfl ?_
        exact hJ11 _ _ _ h
      ·
        refine k_iload C (dk dX7_stepsBetween_0 14 rfl) 3 rfl ?_
        exact k_iret E (dk dX7_stepsBetween_0 15 rfl) h
  ·
    refine k_sub C [3, 4, 1, 0] rfl ?_
    exact hJ11 _ _ _ h
set_option maxRecDepth 100000 in
set_option maxHeartbeats 4000000 in
theorem qX6_weightOf (l : Launch) (g : G) (hg : gOK g) {o0 : Nat} {a1 : Int64} {a3 : Int64} (ho0 : kd o0 = 1) {s0 σe : St} {v : Int64} (h : mX6_weightOf o0 a1 a3 s0 = some (v, σe)) : Mc l g yX6_weightOf cX6_weightOf 9 (some .long) { frames := 2, cells := 0, slots := 0, locals := 42 } [.ref (g.2.2 o0), .long a1, .long a3] s0 (some (.long v)) σe := by
  refine k_enter hg pnRX6 rfl (Nat.le_of_ble_eq_true rfl) ?_
  intro WK E
  have C := kX_y E
  unfold mX6_weightOf at h
  show WK 0 [(0, .ref (g.2.2 o0)), (1, .long a1), (3, .long a3)] [] s0
  refine k_lconst (v := (1 : Int64)) C (dk dX6_weightOf_0 0 rfl) (by decide) ?_
  refine k_lstore (lv' := [(5, .long (1 : Int64)), (0, .ref (g.2.2 o0)), (1, .long a1), (3, .long a3)]) C (dk dX6_weightOf_0 1 rfl) (by decide) rfl ?_
  refine k_iconst (v := (0 : Int32)) C (dk dX6_weightOf_0 2 rfl) (by decide) ?_
  refine k_istore (lv' := [(7, .int (0 : Int32)), (5, .long (1 : Int64)), (0, .ref (g.2.2 o0)), (1, .long a1), (3, .long a3)]) C (dk dX6_weightOf_0 3 rfl) (by decide) rfl ?_
  refine kl_L (P := (fun J6 => ∀ (y1 : Int64) (y2 : Int32) (s3 : St), J6 y1 y2 s3 = some (v, σe) → WK 6 [(0, .ref (g.2.2 o0)), (1, .long a1), (3, .long a3), (5, .long y1), (7, .int y2)] [] s3)) h (fun _ _ _ h => nomatch h) (fun J6 hJ6 y1 y2 s3 h => ?_) (fun J6 hJ6 h => ?_)
  ·
    unfold mX6_weightOf_6 at h
    refine k_iload C (dk dX6_weightOf_0 4 rfl) 4 rfl ?_
    refine k_bipush (v := (36 : Int32)) C (dk dX6_weightOf_0 5 rfl) (by decide) ?_
    refine k_icmp_ge (tgt := 62) C (dk dX6_weightOf_0 6 rfl) (by decide) h (fun h => ?_) (fun h => ?_)
    ·
      refine k_lload C (dk dX6_weightOf_0 31 rfl) 3 rfl ?_
      exact k_lret E (dk dX6_weightOf_1 0 rfl) h
    ·
      refine k_lload_n C (dk dX6_weightOf_0 7 rfl) rfl 1 rfl ?_
      refine k_iload C (dk dX6_weightOf_0 8 rfl) 4 rfl ?_
      refine cl2_k h (fun x5 s4 hc h => ?_)
      refine k_cs (As := [.long a1, .int y2]) (st := []) C (qX7_has l g hg hc) (iW30 _ (List.mem_of_getElem? (i := 18) rfl)) (iW14 _ (List.mem_of_getElem? (i := 22) rfl)) (iW7 _ (List.mem_of_getElem? (i := 4) rfl)) (iW14 _ (List.mem_of_getElem? (i := 23) rfl)) rfl rfl hdX7_has (by decide) rfl rfl (Nat.le_of_ble_eq_true rfl) (dk dX6_weightOf_0 9 rfl) ?_
      refine kl_J (P := (fun J56 => ∀ (y6 : Int64) (y7 : Int32) (s8 : St), J56 y6 y7 s8 = some (v, σe) → WK 56 [(0, .ref (g.2.2 o0)), (1, .long a1), (3, .long a3), (5, .long y6), (7, .int y7)] [] s8)) h (fun y6 y7 s8 h => ?_) (fun J56 hJ56 h => ?_)
      ·
        unfold mX6_weightOf_56 at h
        refine k_iinc (lv' := [(7, .int (y7 + 1)), (0, .ref (g.2.2 o0)), (1, .long a1), (3, .long a3), (5, .long y6)]) C (dk dX6_weightOf_0 29 rfl) (j := 4) rfl rfl (by decide) rfl ?_
        refine k_goto (tgt := 6) C (dk dX6_weightOf_0 30 rfl) (by decide) ?_
        refine k_sub C [1, 2, 3, 4, 0] rfl ?_
        exact hJ6 _ _ _ h
      ·
        refine k_if_eq (tgt := 56) C (dk dX6_weightOf_0 10 rfl) (by decide) h (fun h => ?_) (fun h => ?_)
        ·
          exact hJ56 _ _ _ h
        ·
          refine k_aload_n C (dk dX6_weightOf_0 11 rfl) rfl 0 rfl ?_
          refine k_iload C (dk dX6_weightOf_0 12 rfl) 4 rfl ?_
          refine cl2_k h (fun x10 s9 hc h => ?_)
          refine k_cv (T := TX3) (N := 10) (ci := 1) (ob := o0) (As := [.int y2]) (st := []) C (qX3_chanceAt l g hg ho0 hc) (iW30 _ (List.mem_of_getElem? (i := 24) rfl)) (iW11 _ (List.mem_of_getElem? (i := 11) rfl)) (iW11 _ (List.mem_of_getElem? (i := 12) rfl)) (iW0 _ (List.mem_of_getElem? (i := 15) rfl)) (iW11 _ (List.mem_of_getElem? (i := 13) rfl)) rfl rfl hdX3_chanceAt (by decide) ho0 (by decide) rfl rfl rfl (Nat.le_of_ble_eq_true rfl) (dk dX6_weightOf_0 13 rfl) ?_
          refine k_istore (lv' := [(8, .int x10), (0, .ref (g.2.2 o0)), (1, .long a1), (3, .long a3), (5, .long y1), (7, .int y2)]) C (dk dX6_weightOf_0 14 rfl) (by decide) rfl ?_
          refine k_lload C (dk dX6_weightOf_0 15 rfl) 4 rfl ?_
          refine k_lload_n C (dk dX6_weightOf_0 16 rfl) rfl 3 rfl ?_
          refine k_iload C (dk dX6_weightOf_0 17 rfl) 5 rfl ?_
          refine cl2_k h (fun x12 s11 hc h => ?_)
          refine k_cs (As := [.long a3, .int y2]) (st := [.long y1]) C (qX7_has l g hg hc) (iW30 _ (List.mem_of_getElem? (i := 18) rfl)) (iW14 _ (List.mem_of_getElem? (i := 22) rfl)) (iW7 _ (List.mem_of_getElem? (i := 4) rfl)) (iW14 _ (List.mem_of_getElem? (i := 23) rfl)) rfl rfl hdX7_has (by decide) rfl rfl (Nat.le_of_ble_eq_true rfl) (dk dX6_weightOf_0 18 rfl) ?_
          refine kl_J (P := (fun J53 => ∀ (y13 : Int64) (s14 : St), J53 y13 s14 = some (v, σe) → WK 53 [(0, .ref (g.2.2 o0)), (1, .long a1), (3, .long a3), (7, .int y2)] [.long y13, .long y1] s14)) h (fun y13 s14 h => ?_) (fun J53 hJ53 h => ?_)
          ·
            unfold mX6_weightOf_53 at h
            refine k_lmul C (dk dX6_weightOf_0 27 rfl) ?_
            refine nmL h (fun x15 h => ?_)
            refine k_lstore (lv' := [(5, .long x15), (0, .ref (g.2.2 o0)), (1, .long a1), (3, .long a3), (7, .int y2)]) C (dk dX6_weightOf_0 28 rfl) (by decide) rfl ?_
            refine k_sub C [1, 2, 3, 0, 4] rfl ?_
            exact hJ56 _ _ _ h
          ·
            refine k_if_eq (tgt := 47) C (dk dX6_weightOf_0 19 rfl) (by decide) h (fun h => ?_) (fun h => ?_)
            ·
              refine k_bipush (v := (10 : Int32)) C (dk dX6_weightOf_0 23 rfl) (by decide) ?_
              refine k_iload C (dk dX6_weightOf_0 24 rfl) 0 rfl ?_
              refine k_isub C (dk dX6_weightOf_0 25 rfl) ?_
              refine k_i2l C (dk dX6_weightOf_0 26 rfl) ?_
              refine k_sub C [1, 2, 3, 5] rfl ?_
              exact hJ53 _ _ h
            ·
              refine k_iload C (dk dX6_weightOf_0 20 rfl) 0 rfl ?_
              refine k_i2l C (dk dX6_weightOf_0 21 rfl) ?_
              refine k_goto (tgt := 53) C (dk dX6_weightOf_0 22 rfl) (by decide) ?_
              refine k_sub C [1, 2, 3, 5] rfl ?_
              exact hJ53 _ _ h
  ·
    refine k_sub C [2, 3, 4, 1, 0] rfl ?_
    exact hJ6 _ _ _ h
set_option maxRecDepth 100000 in
set_option maxHeartbeats 4000000 in
theorem qX6_likely (l : Launch) (g : G) (hg : gOK g) {o0 : Nat} {a1 : Int32} {a2 : Int32} (ho0 : kd o0 = 1) {s0 σe : St} {v : Int64} (h : mX6_likely o0 a1 a2 s0 = some (v, σe)) : Mc l g yX6_likely cX6_likely 13 (some .long) { frames := 3, cells := 0, slots := 0, locals := 70 } [.ref (g.2.2 o0), .int a1, .int a2] s0 (some (.long v)) σe := by
  refine k_enter hg pnRX6 rfl (Nat.le_of_ble_eq_true rfl) ?_
  intro WK E
  have C := kX_y E
  unfold mX6_likely at h
  show WK 0 [(0, .ref (g.2.2 o0)), (1, .int a1), (2, .int a2)] [] s0
  refine k_aload_n C (dk dX6_likely_0 0 rfl) rfl 0 rfl ?_
  refine cl2_k h (fun x2 s1 hc h => ?_)
  refine k_cv (T := TX3) (N := 10) (ci := 1) (ob := o0) (As := []) (st := []) C (qX3_sureCells l g hg ho0 hc) (iW30 _ (List.mem_of_getElem? (i := 9) rfl)) (iW30 _ (List.mem_of_getElem? (i := 10) rfl)) (iW30 _ (List.mem_of_getElem? (i := 11) rfl)) (iW0 _ (List.mem_of_getElem? (i := 15) rfl)) (iW30 _ (List.mem_of_getElem? (i := 12) rfl)) rfl rfl hdX3_sureCells (by decide) ho0 (by decide) rfl rfl rfl (Nat.le_of_ble_eq_true rfl) (dk dX6_likely_0 1 rfl) ?_
  refine k_lstore_n (lv' := [(3, .long x2), (0, .ref (g.2.2 o0)), (1, .int a1), (2, .int a2)]) C (dk dX6_likely_0 2 rfl) rfl (by decide) rfl ?_
  refine k_aload_n C (dk dX6_likely_0 3 rfl) rfl 1 rfl ?_
  refine cl2_k h (fun x4 s3 hc h => ?_)
  refine k_cv (T := TX3) (N := 10) (ci := 1) (ob := o0) (As := []) (st := []) C (qX3_unsureCells l g hg ho0 hc) (iW30 _ (List.mem_of_getElem? (i := 13) rfl)) (iW30 _ (List.mem_of_getElem? (i := 0) rfl)) (iW30 _ (List.mem_of_getElem? (i := 1) rfl)) (iW0 _ (List.mem_of_getElem? (i := 15) rfl)) (iW30 _ (List.mem_of_getElem? (i := 2) rfl)) rfl rfl hdX3_unsureCells (by decide) ho0 (by decide) rfl rfl rfl (Nat.le_of_ble_eq_true rfl) (dk dX6_likely_0 4 rfl) ?_
  refine k_lstore (lv' := [(5, .long x4), (3, .long x2), (0, .ref (g.2.2 o0)), (1, .int a1), (2, .int a2)]) C (dk dX6_likely_0 5 rfl) (by decide) rfl ?_
  refine k_iconst (v := (1 : Int32)) C (dk dX6_likely_0 6 rfl) (by decide) ?_
  refine k_lload C (dk dX6_likely_0 7 rfl) 0 rfl ?_
  refine cl2_k h (fun x6 s5 hc h => ?_)
  refine k_cs (As := [.long x4]) (st := [.int (1 : Int32)]) C (qJ13_bitCount_95d88 l g hg hc) (iW30 _ (List.mem_of_getElem? (i := 14) rfl)) (iW16 _ (List.mem_of_getElem? (i := 20) rfl)) (iW16 _ (List.mem_of_getElem? (i := 21) rfl)) (iW16 _ (List.mem_of_getElem? (i := 22) rfl)) rfl rfl hdJ13_bitCount_95d88 (by decide) rfl rfl (Nat.le_of_ble_eq_true rfl) (dk dX6_likely_0 8 rfl) ?_
  refine k_bipush (v := (8 : Int32)) C (dk dX6_likely_0 9 rfl) (by decide) ?_
  refine k_mmin C (iW30 _ (List.mem_of_getElem? (i := 8) rfl)) (iW27 _ (List.mem_of_getElem? (i := 7) rfl)) (iW7 _ (List.mem_of_getElem? (i := 17) rfl)) (iW27 _ (List.mem_of_getElem? (i := 8) rfl)) (Nat.le_of_ble_eq_true rfl) (Nat.le_of_ble_eq_true rfl) (dk dX6_likely_0 10 rfl) ?_
  refine k_ishl C (dk dX6_likely_0 11 rfl) ?_
  refine nmI h (fun x7 h => ?_)
  refine k_istore (lv' := [(7, .int x7), (5, .long x4), (3, .long x2), (0, .ref (g.2.2 o0)), (1, .int a1), (2, .int a2)]) C (dk dX6_likely_0 12 rfl) (by decide) rfl ?_
  refine k_lconst (v := (0 : Int64)) C (dk dX6_likely_0 13 rfl) (by decide) ?_
  refine k_lstore (lv' := [(8, .long (0 : Int64)), (7, .int x7), (5, .long x4), (3, .long x2), (0, .ref (g.2.2 o0)), (1, .int a1), (2, .int a2)]) C (dk dX6_likely_0 14 rfl) (by decide) rfl ?_
  refine k_iconst (v := (0 : Int32)) C (dk dX6_likely_0 15 rfl) (by decide) ?_
  refine k_istore (lv' := [(10, .int (0 : Int32)), (8, .long (0 : Int64)), (7, .int x7), (5, .long x4), (3, .long x2), (0, .ref (g.2.2 o0)), (1, .int a1), (2, .int a2)]) C (dk dX6_likely_0 16 rfl) (by decide) rfl ?_
  refine kl_L (P := (fun J31 => ∀ (y8 : Int64) (y9 : Int32) (s10 : St), J31 y8 y9 s10 = some (v, σe) → WK 31 [(0, .ref (g.2.2 o0)), (1, .int a1), (2, .int a2), (3, .long x2), (5, .long x4), (7, .int x7), (8, .long y8), (10, .int y9)] [] s10)) h (fun _ _ _ h => nomatch h) (fun J31 hJ31 y8 y9 s10 h => ?_) (fun J31 hJ31 h => ?_)
  ·
    unfold mX6_likely_31 at h
    refine k_iload C (dk dX6_likely_0 17 rfl) 7 rfl ?_
    refine k_iload C (dk dX6_likely_0 18 rfl) 5 rfl ?_
    refine k_icmp_ge (tgt := 80) C (dk dX6_likely_0 19 rfl) (by decide) h (fun h => ?_) (fun h => ?_)
    ·
      refine k_lload C (dk dX6_likely_1 9 rfl) 6 rfl ?_
      exact k_lret E (dk dX6_likely_1 10 rfl) h
    ·
      refine k_lload_n C (dk dX6_likely_0 20 rfl) rfl 3 rfl ?_
      refine k_lload C (dk dX6_likely_0 21 rfl) 4 rfl ?_
      refine k_iload C (dk dX6_likely_0 22 rfl) 7 rfl ?_
      refine cl2_k h (fun x12 s11 hc h => ?_)
      refine k_cs (As := [.long x4, .int y9]) (st := [.long x2]) C (qX6_passableOf l g hg hc) (iW30 _ (List.mem_of_getElem? (i := 15) rfl)) (iW30 _ (List.mem_of_getElem? (i := 16) rfl)) (iW30 _ (List.mem_of_getElem? (i := 6) rfl)) (iW30 _ (List.mem_of_getElem? (i := 17) rfl)) rfl rfl hdX6_passableOf (by decide) rfl rfl (Nat.le_of_ble_eq_true rfl) (dk dX6_likely_0 23 rfl) ?_
      refine k_lor C (dk dX6_likely_0 24 rfl) ?_
      refine nmL h (fun x13 h => ?_)
      refine k_lstore (lv' := [(11, .long x13), (0, .ref (g.2.2 o0)), (1, .int a1), (2, .int a2), (3, .long x2), (5, .long x4), (7, .int x7), (8, .long y8), (10, .int y9)]) C (dk dX6_likely_0 25 rfl) (by decide) rfl ?_
      refine k_iload_n C (dk dX6_likely_0 26 rfl) rfl 2 rfl ?_
      refine k_iload_n C (dk dX6_likely_0 27 rfl) rfl 3 rfl ?_
      refine k_lload C (dk dX6_likely_0 28 rfl) 0 rfl ?_
      refine cl2_k h (fun x15 s14 hc h => ?_)
      refine k_cs (As := [.int a1, .int a2, .long x13]) (st := []) C (qX7_stepsBetween l g hg hc) (iW30 _ (List.mem_of_getElem? (i := 20) rfl)) (iW14 _ (List.mem_of_getElem? (i := 18) rfl)) (iW7 _ (List.mem_of_getElem? (i := 4) rfl)) (iW14 _ (List.mem_of_getElem? (i := 19) rfl)) rfl rfl hdX7_stepsBetween (by decide) rfl rfl (Nat.le_of_ble_eq_true rfl) (dk dX6_likely_0 29 rfl) ?_
      refine k_bipush (v := (-4 : Int32)) C (dk dX6_likely_0 30 rfl) (by decide) ?_
      refine kl_J (P := (fun J74 => ∀ (y16 : Int64) (y17 : Int32) (s18 : St), J74 y16 y17 s18 = some (v, σe) → WK 74 [(0, .ref (g.2.2 o0)), (1, .int a1), (2, .int a2), (3, .long x2), (5, .long x4), (7, .int x7), (8, .long y16), (10, .int y17)] [] s18)) h (fun y16 y17 s18 h => ?_) (fun J74 hJ74 h => ?_)
      ·
        unfold mX6_likely_74 at h
        refine k_iinc (lv' := [(10, .int (y17 + 1)), (0, .ref (g.2.2 o0)), (1, .int a1), (2, .int a2), (3, .long x2), (5, .long x4), (7, .int x7), (8, .long y16)]) C (dk dX6_likely_1 7 rfl) (j := 7) rfl rfl (by decide) rfl ?_
        refine k_goto (tgt := 31) C (dk dX6_likely_1 8 rfl) (by decide) ?_
        refine k_sub C [1, 2, 3, 4, 5, 6, 7, 0] rfl ?_
        exact hJ31 _ _ _ h
      ·
        refine k_icmp_eq (tgt := 74) C (dk dX6_likely_0 31 rfl) (by decide) h (fun h => ?_) (fun h => ?_)
        ·
          refine k_sub C [1, 2, 3, 4, 5, 6, 7, 8] rfl ?_
          exact hJ74 _ _ _ h
        ·
          refine k_lload C (dk dX6_likely_1 0 rfl) 7 rfl ?_
          refine k_aload_n C (dk dX6_likely_1 1 rfl) rfl 1 rfl ?_
          refine k_lload C (dk dX6_likely_1 2 rfl) 5 rfl ?_
          refine k_lload C (dk dX6_likely_1 3 rfl) 0 rfl ?_
          refine cl2_k h (fun x20 s19 hc h => ?_)
          refine k_cs (As := [.ref (g.2.2 o0), .long x4, .long x13]) (st := [.long y8]) C (qX6_weightOf l g hg ho0 hc) (iW30 _ (List.mem_of_getElem? (i := 21) rfl)) (iW30 _ (List.mem_of_getElem? (i := 22) rfl)) (iW30 _ (List.mem_of_getElem? (i := 6) rfl)) (iW30 _ (List.mem_of_getElem? (i := 23) rfl)) rfl rfl hdX6_weightOf (by decide) rfl rfl (Nat.le_of_ble_eq_true rfl) (dk dX6_likely_1 4 rfl) ?_
          refine k_ladd C (dk dX6_likely_1 5 rfl) ?_
          refine nmL h (fun x21 h => ?_)
          refine k_lstore (lv' := [(8, .long x21), (11, .long x13), (0, .ref (g.2.2 o0)), (1, .int a1), (2, .int a2), (3, .long x2), (5, .long x4), (7, .int x7), (10, .int y9)]) C (dk dX6_likely_1 6 rfl) (by decide) rfl ?_
          refine k_sub C [2, 3, 4, 5, 6, 7, 0, 8] rfl ?_
          exact hJ74 _ _ _ h
  ·
    refine k_sub C [5, 6, 7, 4, 3, 2, 1, 0] rfl ?_
    exact hJ31 _ _ _ h
set_option maxRecDepth 100000 in
set_option maxHeartbeats 4000000 in
theorem qX7_leastOf (l : Launch) (g : G) (hg : gOK g) {a0 : Int64}  {s0 σe : St} {v : Int32} (h : mX7_leastOf a0 s0 = some (v, σe)) : Mc l g yX7_leastOf cX7_leastOf 3 (some .int) { frames := 2, cells := 0, slots := 0, locals := 42 } [.long a0] s0 (some (.int v)) σe := by
  refine k_enter hg pnRX7 rfl (Nat.le_of_ble_eq_true rfl) ?_
  intro WK E
  have C := kX_y E
  unfold mX7_leastOf at h
  show WK 0 [(0, .long a0)] [] s0
  refine k_iconst (v := (0 : Int32)) C (dk dX7_leastOf_0 0 rfl) (by decide) ?_
  refine k_istore_n (lv' := [(2, .int (0 : Int32)), (0, .long a0)]) C (dk dX7_leastOf_0 1 rfl) rfl (by decide) rfl ?_
  refine kl_L (P := (fun J2 => ∀ (y1 : Int32) (s2 : St), J2 y1 s2 = some (v, σe) → WK 2 [(0, .long a0), (2, .int y1)] [] s2)) h (fun _ _ h => nomatch h) (fun J2 hJ2 y1 s2 h => ?_) (fun J2 hJ2 h => ?_)
  ·
    unfold mX7_leastOf_2 at h
    refine k_iload_n C (dk dX7_leastOf_0 2 rfl) rfl 1 rfl ?_
    refine k_bipush (v := (36 : Int32)) C (dk dX7_leastOf_0 3 rfl) (by decide) ?_
    refine k_icmp_ge (tgt := 24) C (dk dX7_leastOf_0 4 rfl) (by decide) h (fun h => ?_) (fun h => ?_)
    ·
      refine k_bipush (v := (-4 : Int32)) C (dk dX7_leastOf_0 13 rfl) (by decide) ?_
      exact k_iret E (dk dX7_leastOf_0 14 rfl) h
    ·
      refine k_lload_n C (dk dX7_leastOf_0 5 rfl) rfl 0 rfl ?_
      refine k_iload_n C (dk dX7_leastOf_0 6 rfl) rfl 1 rfl ?_
      refine cl2_k h (fun x4 s3 hc h => ?_)
      refine k_cs (As := [.long a0, .int y1]) (st := []) C (qX7_has l g hg hc) (iW14 _ (List.mem_of_getElem? (i := 21) rfl)) (iW14 _ (List.mem_of_getElem? (i := 22) rfl)) (iW7 _ (List.mem_of_getElem? (i := 4) rfl)) (iW14 _ (List.mem_of_getElem? (i := 23) rfl)) rfl rfl hdX7_has (by decide) rfl rfl (Nat.le_of_ble_eq_true rfl) (dk dX7_leastOf_0 7 rfl) ?_
      refine k_if_eq (tgt := 18) C (dk dX7_leastOf_0 8 rfl) (by decide) h (fun h => ?_) (fun h => ?_)
      ·
        refine k_iinc (lv' := [(2, .int (y1 + 1)), (0, .long a0)]) C (dk dX7_leastOf_0 11 rfl) (j := 1) rfl rfl (by decide) rfl ?_
        refine k_goto (tgt := 2) C (dk dX7_leastOf_0 12 rfl) (by decide) ?_
        refine k_sub C [1, 0] rfl ?_
        exact hJ2 _ _ h
      ·
        refine k_iload_n C (dk dX7_leastOf_0 9 rfl) rfl 1 rfl ?_
        exact k_iret E (dk dX7_leastOf_0 10 rfl) h
  ·
    refine k_sub C [1, 0] rfl ?_
    exact hJ2 _ _ h
set_option maxRecDepth 100000 in
set_option maxHeartbeats 4000000 in
theorem qX7_cellsWithin (l : Launch) (g : G) (hg : gOK g) {a0 : Int32} {a1 : Int32} {a2 : Int64}  {s0 σe : St} {v : Int64} (h : mX7_cellsWithin a0 a1 a2 s0 = some (v, σe)) : Mc l g yX7_cellsWithin cX7_cellsWithin 7 (some .long) { frames := 1, cells := 0, slots := 0, locals := 23 } [.int a0, .int a1, .long a2] s0 (some (.long v)) σe := by
  refine k_enter hg pnRX7 rfl (Nat.le_of_ble_eq_true rfl) ?_
  intro WK E
  have C := kX_y E
  unfold mX7_cellsWithin at h
  show WK 0 [(0, .int a0), (1, .int a1), (2, .long a2)] [] s0
  refine k_iload_n C (dk dX7_cellsWithin_0 0 rfl) rfl 0 rfl ?_
  refine cl2_k h (fun x2 s1 hc h => ?_)
  refine k_cs (As := [.int a0]) (st := []) C (qX7_bit l g hg hc) (iW14 _ (List.mem_of_getElem? (i := 20) rfl)) (iW14 _ (List.mem_of_getElem? (i := 15) rfl)) (iW7 _ (List.mem_of_getElem? (i := 4) rfl)) (iW14 _ (List.mem_of_getElem? (i := 16) rfl)) rfl rfl hdX7_bit (by decide) rfl rfl (Nat.le_of_ble_eq_true rfl) (dk dX7_cellsWithin_0 1 rfl) ?_
  refine k_lload_n C (dk dX7_cellsWithin_0 2 rfl) rfl 2 rfl ?_
  refine k_land C (dk dX7_cellsWithin_0 3 rfl) ?_
  refine nmL h (fun x3 h => ?_)
  refine k_lstore (lv' := [(4, .long x3), (0, .int a0), (1, .int a1), (2, .long a2)]) C (dk dX7_cellsWithin_0 4 rfl) (by decide) rfl ?_
  refine k_iconst (v := (0 : Int32)) C (dk dX7_cellsWithin_0 5 rfl) (by decide) ?_
  refine k_istore (lv' := [(6, .int (0 : Int32)), (4, .long x3), (0, .int a0), (1, .int a1), (2, .long a2)]) C (dk dX7_cellsWithin_0 6 rfl) (by decide) rfl ?_
  refine kl_L (P := (fun J11 => ∀ (y4 : Int64) (y5 : Int32) (s6 : St), J11 y4 y5 s6 = some (v, σe) → WK 11 [(1, .int a1), (2, .long a2), (4, .long y4), (6, .int y5)] [] s6)) h (fun _ _ _ h => nomatch h) (fun J11 hJ11 y4 y5 s6 h => ?_) (fun J11 hJ11 h => ?_)
  ·
    unfold mX7_cellsWithin_11 at h
    refine k_iload C (dk dX7_cellsWithin_0 7 rfl) 3 rfl ?_
    refine k_iload_n C (dk dX7_cellsWithin_0 8 rfl) rfl 0 rfl ?_
    refine k_icmp_ge (tgt := 32) C (dk dX7_cellsWithin_0 9 rfl) (by decide) h (fun h => ?_) (fun h => ?_)
    ·
      refine k_lload C (dk dX7_cellsWithin_0 17 rfl) 2 rfl ?_
      exact k_lret E (dk dX7_cellsWithin_0 18 rfl) h
    ·
      refine k_lload C (dk dX7_cellsWithin_0 10 rfl) 2 rfl ?_
      refine cl2_k h (fun x8 s7 hc h => ?_)
      refine k_cs (As := [.long y4]) (st := []) C (qX7_spread l g hg hc) (iW14 _ (List.mem_of_getElem? (i := 24) rfl)) (iW14 _ (List.mem_of_getElem? (i := 25) rfl)) (iW7 _ (List.mem_of_getElem? (i := 4) rfl)) (iW14 _ (List.mem_of_getElem? (i := 26) rfl)) rfl rfl hdX7_spread (by decide) rfl rfl (Nat.le_of_ble_eq_true rfl) (dk dX7_cellsWithin_0 11 rfl) ?_
      refine k_lload_n C (dk dX7_cellsWithin_0 12 rfl) rfl 1 rfl ?_
      refine k_land C (dk dX7_cellsWithin_0 13 rfl) ?_
      refine nmL h (fun x9 h => ?_)
      refine k_lstore (lv' := [(4, .long x9), (1, .int a1), (2, .long a2), (6, .int y5)]) C (dk dX7_cellsWithin_0 14 rfl) (by decide) rfl ?_
      refine k_iinc (lv' := [(6, .int (y5 + 1)), (4, .long x9), (1, .int a1), (2, .long a2)]) C (dk dX7_cellsWithin_0 15 rfl) (j := 3) rfl rfl (by decide) rfl ?_
      refine k_goto (tgt := 11) C (dk dX7_cellsWithin_0 16 rfl) (by decide) ?_
      refine k_sub C [2, 3, 1, 0] rfl ?_
      exact hJ11 _ _ _ h
  ·
    refine k_sub C [3, 4, 1, 0] rfl ?_
    exact hJ11 _ _ _ h
set_option maxRecDepth 100000 in
set_option maxHeartbeats 4000000 in
theorem qX7_islandOf (l : Launch) (g : G) (hg : gOK g) {a0 : Int32} {a1 : Int64}  {s0 σe : St} {v : Int64} (h : mX7_islandOf a0 a1 s0 = some (v, σe)) : Mc l g yX7_islandOf cX7_islandOf 3 (some .long) { frames := 2, cells := 0, slots := 0, locals := 49 } [.int a0, .long a1] s0 (some (.long v)) σe := by
  refine k_enter hg pnRX7 rfl (Nat.le_of_ble_eq_true rfl) ?_
  intro WK E
  have C := kX_y E
  unfold mX7_islandOf at h
  show WK 0 [(0, .int a0), (1, .long a1)] [] s0
  refine k_iload_n C (dk dX7_islandOf_0 0 rfl) rfl 0 rfl ?_
  refine k_bipush (v := (36 : Int32)) C (dk dX7_islandOf_0 1 rfl) (by decide) ?_
  refine k_lload_n C (dk dX7_islandOf_0 2 rfl) rfl 1 rfl ?_
  refine cl2_k h (fun x2 s1 hc h => ?_)
  refine k_cs (As := [.int a0, .int (36 : Int32), .long a1]) (st := []) C (qX7_cellsWithin l g hg hc) (iW17 _ (List.mem_of_getElem? (i := 27) rfl)) (iW17 _ (List.mem_of_getElem? (i := 28) rfl)) (iW7 _ (List.mem_of_getElem? (i := 4) rfl)) (iW17 _ (List.mem_of_getElem? (i := 29) rfl)) rfl rfl hdX7_cellsWithin (by decide) rfl rfl (Nat.le_of_ble_eq_true rfl) (dk dX7_islandOf_0 3 rfl) ?_
  exact k_lret E (dk dX7_islandOf_0 4 rfl) h
set_option maxRecDepth 100000 in
set_option maxHeartbeats 4000000 in
theorem qX7_islandsOf (l : Launch) (g : G) (hg : gOK g) {a0 : Int64}  {s0 σe : St} {v : Int32} (h : mX7_islandsOf a0 s0 = some (v, σe)) : Mc l g yX7_islandsOf cX7_islandsOf 6 (some .int) { frames := 3, cells := 0, slots := 0, locals := 71 } [.long a0] s0 (some (.int v)) σe := by
  refine k_enter hg pnRX7 rfl (Nat.le_of_ble_eq_true rfl) ?_
  intro WK E
  have C := kX_y E
  unfold mX7_islandsOf at h
  show WK 0 [(0, .long a0)] [] s0
  refine k_lload_n C (dk dX7_islandsOf_0 0 rfl) rfl 0 rfl ?_
  refine k_lstore_n (lv' := [(2, .long a0), (0, .long a0)]) C (dk dX7_islandsOf_0 1 rfl) rfl (by decide) rfl ?_
  refine k_iconst (v := (0 : Int32)) C (dk dX7_islandsOf_0 2 rfl) (by decide) ?_
  refine k_istore (lv' := [(4, .int (0 : Int32)), (2, .long a0), (0, .long a0)]) C (dk dX7_islandsOf_0 3 rfl) (by decide) rfl ?_
  refine k_iconst (v := (0 : Int32)) C (dk dX7_islandsOf_0 4 rfl) (by decide) ?_
  refine k_istore (lv' := [(5, .int (0 : Int32)), (4, .int (0 : Int32)), (2, .long a0), (0, .long a0)]) C (dk dX7_islandsOf_0 5 rfl) (by decide) rfl ?_
  refine kl_L (P := (fun J8 => ∀ (y1 : Int64) (y2 : Int32) (y3 : Int32) (s4 : St), J8 y1 y2 y3 s4 = some (v, σe) → WK 8 [(0, .long a0), (2, .long y1), (4, .int y2), (5, .int y3)] [] s4)) h (fun _ _ _ _ h => nomatch h) (fun J8 hJ8 y1 y2 y3 s4 h => ?_) (fun J8 hJ8 h => ?_)
  ·
    unfold mX7_islandsOf_8 at h
    refine k_iload C (dk dX7_islandsOf_0 6 rfl) 3 rfl ?_
    refine k_bipush (v := (36 : Int32)) C (dk dX7_islandsOf_0 7 rfl) (by decide) ?_
    refine k_icmp_ge (tgt := 46) C (dk dX7_islandsOf_0 8 rfl) (by decide) h (fun h => ?_) (fun h => ?_)
    ·
      refine k_iload C (dk dX7_islandsOf_0 24 rfl) 2 rfl ?_
      exact k_iret E (dk dX7_islandsOf_0 25 rfl) h
    ·
      refine k_lload_n C (dk dX7_islandsOf_0 9 rfl) rfl 1 rfl ?_
      refine k_iload C (dk dX7_islandsOf_0 10 rfl) 3 rfl ?_
      refine cl2_k h (fun x6 s5 hc h => ?_)
      refine k_cs (As := [.long y1, .int y3]) (st := []) C (qX7_has l g hg hc) (iW14 _ (List.mem_of_getElem? (i := 21) rfl)) (iW14 _ (List.mem_of_getElem? (i := 22) rfl)) (iW7 _ (List.mem_of_getElem? (i := 4) rfl)) (iW14 _ (List.mem_of_getElem? (i := 23) rfl)) rfl rfl hdX7_has (by decide) rfl rfl (Nat.le_of_ble_eq_true rfl) (dk dX7_islandsOf_0 11 rfl) ?_
      refine kl_J (P := (fun J40 => ∀ (y7 : Int64) (y8 : Int32) (y9 : Int32) (s10 : St), J40 y7 y8 y9 s10 = some (v, σe) → WK 40 [(0, .long a0), (2, .long y7), (4, .int y8), (5, .int y9)] [] s10)) h (fun y7 y8 y9 s10 h => ?_) (fun J40 hJ40 h => ?_)
      ·
        unfold mX7_islandsOf_40 at h
        refine k_iinc (lv' := [(5, .int (y9 + 1)), (0, .long a0), (2, .long y7), (4, .int y8)]) C (dk dX7_islandsOf_0 22 rfl) (j := 3) rfl rfl (by decide) rfl ?_
        refine k_goto (tgt := 8) C (dk dX7_islandsOf_0 23 rfl) (by decide) ?_
        refine k_sub C [1, 2, 3, 0] rfl ?_
        exact hJ8 _ _ _ _ h
      ·
        refine k_if_eq (tgt := 40) C (dk dX7_islandsOf_0 12 rfl) (by decide) h (fun h => ?_) (fun h => ?_)
        ·
          exact hJ40 _ _ _ _ h
        ·
          refine k_lload_n C (dk dX7_islandsOf_0 13 rfl) rfl 1 rfl ?_
          refine k_iload C (dk dX7_islandsOf_0 14 rfl) 3 rfl ?_
          refine k_lload_n C (dk dX7_islandsOf_0 15 rfl) rfl 0 rfl ?_
          refine cl2_k h (fun x12 s11 hc h => ?_)
          refine k_cs (As := [.int y3, .long a0]) (st := [.long y1]) C (qX7_islandOf l g hg hc) (iW17 _ (List.mem_of_getElem? (i := 24) rfl)) (iW17 _ (List.mem_of_getElem? (i := 25) rfl)) (iW7 _ (List.mem_of_getElem? (i := 4) rfl)) (iW17 _ (List.mem_of_getElem? (i := 26) rfl)) rfl rfl hdX7_islandOf (by decide) rfl rfl (Nat.le_of_ble_eq_true rfl) (dk dX7_islandsOf_0 16 rfl) ?_
          refine k_ldc2 (v := (-1 : Int64)) C (dk dX7_islandsOf_0 17 rfl) (iW17 _ (List.mem_of_getElem? (i := 23) rfl)) ?_
          refine k_lxor C (dk dX7_islandsOf_0 18 rfl) ?_
          refine k_land C (dk dX7_islandsOf_0 19 rfl) ?_
          refine nmL h (fun x13 h => ?_)
          refine k_lstore_n (lv' := [(2, .long x13), (0, .long a0), (4, .int y2), (5, .int y3)]) C (dk dX7_islandsOf_0 20 rfl) rfl (by decide) rfl ?_
          refine k_iinc (lv' := [(4, .int (y2 + 1)), (2, .long x13), (0, .long a0), (5, .int y3)]) C (dk dX7_islandsOf_0 21 rfl) (j := 2) rfl rfl (by decide) rfl ?_
          refine k_sub C [2, 1, 0, 3] rfl ?_
          exact hJ40 _ _ _ _ h
  ·
    refine k_sub C [3, 2, 1, 0] rfl ?_
    exact hJ8 _ _ _ _ h
set_option maxRecDepth 100000 in
set_option maxHeartbeats 4000000 in
theorem qX7_largestIsland (l : Launch) (g : G) (hg : gOK g) {a0 : Int64}  {s0 σe : St} {v : Int64} (h : mX7_largestIsland a0 s0 = some (v, σe)) : Mc l g yX7_largestIsland cX7_largestIsland 9 (some .long) { frames := 3, cells := 0, slots := 0, locals := 71 } [.long a0] s0 (some (.long v)) σe := by
  refine k_enter hg pnRX7 rfl (Nat.le_of_ble_eq_true rfl) ?_
  intro WK E
  have C := kX_y E
  unfold mX7_largestIsland at h
  show WK 0 [(0, .long a0)] [] s0
  refine k_lload_n C (dk dX7_largestIsland_0 0 rfl) rfl 0 rfl ?_
  refine k_lstore_n (lv' := [(2, .long a0), (0, .long a0)]) C (dk dX7_largestIsland_0 1 rfl) rfl (by decide) rfl ?_
  refine k_lconst (v := (0 : Int64)) C (dk dX7_largestIsland_0 2 rfl) (by decide) ?_
  refine k_lstore (lv' := [(4, .long (0 : Int64)), (2, .long a0), (0, .long a0)]) C (dk dX7_largestIsland_0 3 rfl) (by decide) rfl ?_
  refine k_iconst (v := (0 : Int32)) C (dk dX7_largestIsland_0 4 rfl) (by decide) ?_
  refine k_istore (lv' := [(6, .int (0 : Int32)), (4, .long (0 : Int64)), (2, .long a0), (0, .long a0)]) C (dk dX7_largestIsland_0 5 rfl) (by decide) rfl ?_
  refine kl_L (P := (fun J8 => ∀ (y1 : Int64) (y2 : Int64) (y3 : Int32) (s4 : St), J8 y1 y2 y3 s4 = some (v, σe) → WK 8 [(0, .long a0), (2, .long y1), (4, .long y2), (6, .int y3)] [] s4)) h (fun _ _ _ _ h => nomatch h) (fun J8 hJ8 y1 y2 y3 s4 h => ?_) (fun J8 hJ8 h => ?_)
  ·
    unfold mX7_largestIsland_8 at h
    refine k_iload C (dk dX7_largestIsland_0 6 rfl) 3 rfl ?_
    refine k_bipush (v := (36 : Int32)) C (dk dX7_largestIsland_0 7 rfl) (by decide) ?_
    refine k_icmp_ge (tgt := 64) C (dk dX7_largestIsland_0 8 rfl) (by decide) h (fun h => ?_) (fun h => ?_)
    ·
      refine k_lload C (dk dX7_largestIsland_1 0 rfl) 2 rfl ?_
      exact k_lret E (dk dX7_largestIsland_1 1 rfl) h
    ·
      refine k_lload_n C (dk dX7_largestIsland_0 9 rfl) rfl 1 rfl ?_
      refine k_iload C (dk dX7_largestIsland_0 10 rfl) 3 rfl ?_
      refine cl2_k h (fun x6 s5 hc h => ?_)
      refine k_cs (As := [.long y1, .int y3]) (st := []) C (qX7_has l g hg hc) (iW14 _ (List.mem_of_getElem? (i := 21) rfl)) (iW14 _ (List.mem_of_getElem? (i := 22) rfl)) (iW7 _ (List.mem_of_getElem? (i := 4) rfl)) (iW14 _ (List.mem_of_getElem? (i := 23) rfl)) rfl rfl hdX7_has (by decide) rfl rfl (Nat.le_of_ble_eq_true rfl) (dk dX7_largestIsland_0 11 rfl) ?_
      refine kl_J (P := (fun J58 => ∀ (y7 : Int64) (y8 : Int64) (y9 : Int32) (s10 : St), J58 y7 y8 y9 s10 = some (v, σe) → WK 58 [(0, .long a0), (2, .long y7), (4, .long y8), (6, .int y9)] [] s10)) h (fun y7 y8 y9 s10 h => ?_) (fun J58 hJ58 h => ?_)
      ·
        unfold mX7_largestIsland_58 at h
        refine k_iinc (lv' := [(6, .int (y9 + 1)), (0, .long a0), (2, .long y7), (4, .long y8)]) C (dk dX7_largestIsland_0 30 rfl) (j := 3) rfl rfl (by decide) rfl ?_
        refine k_goto (tgt := 8) C (dk dX7_largestIsland_0 31 rfl) (by decide) ?_
        refine k_sub C [1, 2, 3, 0] rfl ?_
        exact hJ8 _ _ _ _ h
      ·
        refine k_if_eq (tgt := 58) C (dk dX7_largestIsland_0 12 rfl) (by decide) h (fun h => ?_) (fun h => ?_)
        ·
          exact hJ58 _ _ _ _ h
        ·
          refine k_iload C (dk dX7_largestIsland_0 13 rfl) 3 rfl ?_
          refine k_lload_n C (dk dX7_largestIsland_0 14 rfl) rfl 0 rfl ?_
          refine cl2_k h (fun x12 s11 hc h => ?_)
          refine k_cs (As := [.int y3, .long a0]) (st := []) C (qX7_islandOf l g hg hc) (iW17 _ (List.mem_of_getElem? (i := 24) rfl)) (iW17 _ (List.mem_of_getElem? (i := 25) rfl)) (iW7 _ (List.mem_of_getElem? (i := 4) rfl)) (iW17 _ (List.mem_of_getElem? (i := 26) rfl)) rfl rfl hdX7_islandOf (by decide) rfl rfl (Nat.le_of_ble_eq_true rfl) (dk dX7_largestIsland_0 15 rfl) ?_
          refine k_lstore (lv' := [(7, .long x12), (0, .long a0), (2, .long y1), (4, .long y2), (6, .int y3)]) C (dk dX7_largestIsland_0 16 rfl) (by decide) rfl ?_
          refine k_lload_n C (dk dX7_largestIsland_0 17 rfl) rfl 2 rfl ?_
          refine k_lload C (dk dX7_largestIsland_0 18 rfl) 0 rfl ?_
          refine k_ldc2 (v := (-1 : Int64)) C (dk dX7_largestIsland_0 19 rfl) (iW17 _ (List.mem_of_getElem? (i := 23) rfl)) ?_
          refine k_lxor C (dk dX7_largestIsland_0 20 rfl) ?_
          refine k_land C (dk dX7_largestIsland_0 21 rfl) ?_
          refine nmL h (fun x13 h => ?_)
          refine k_lstore_n (lv' := [(2, .long x13), (7, .long x12), (0, .long a0), (4, .long y2), (6, .int y3)]) C (dk dX7_largestIsland_0 22 rfl) rfl (by decide) rfl ?_
          refine k_lload C (dk dX7_largestIsland_0 23 rfl) 1 rfl ?_
          refine cl2_k h (fun x15 s14 hc h => ?_)
          refine k_cs (As := [.long x12]) (st := []) C (qJ13_bitCount_95d88 l g hg hc) (iW19 _ (List.mem_of_getElem? (i := 2) rfl)) (iW16 _ (List.mem_of_getElem? (i := 20) rfl)) (iW16 _ (List.mem_of_getElem? (i := 21) rfl)) (iW16 _ (List.mem_of_getElem? (i := 22) rfl)) rfl rfl hdJ13_bitCount_95d88 (by decide) rfl rfl (Nat.le_of_ble_eq_true rfl) (dk dX7_largestIsland_0 24 rfl) ?_
          refine k_lload C (dk dX7_largestIsland_0 25 rfl) 3 rfl ?_
          refine cl2_k h (fun x17 s16 hc h => ?_)
          refine k_cs (As := [.long y2]) (st := [.int x15]) C (qJ13_bitCount_95d88 l g hg hc) (iW19 _ (List.mem_of_getElem? (i := 2) rfl)) (iW16 _ (List.mem_of_getElem? (i := 20) rfl)) (iW16 _ (List.mem_of_getElem? (i := 21) rfl)) (iW16 _ (List.mem_of_getElem? (i := 22) rfl)) rfl rfl hdJ13_bitCount_95d88 (by decide) rfl rfl (Nat.le_of_ble_eq_true rfl) (dk dX7_largestIsland_0 26 rfl) ?_
          refine k_icmp_le (tgt := 58) C (dk dX7_largestIsland_0 27 rfl) (by decide) h (fun h => ?_) (fun h => ?_)
          ·
            refine k_sub C [2, 0, 3, 4] rfl ?_
            exact hJ58 _ _ _ _ h
          ·
            refine k_lload C (dk dX7_largestIsland_0 28 rfl) 1 rfl ?_
            refine k_lstore (lv' := [(4, .long x12), (2, .long x13), (7, .long x12), (0, .long a0), (6, .int y3)]) C (dk dX7_largestIsland_0 29 rfl) (by decide) rfl ?_
            refine k_sub C [3, 1, 0, 4] rfl ?_
            exact hJ58 _ _ _ _ h
  ·
    refine k_sub C [3, 2, 1, 0] rfl ?_
    exact hJ8 _ _ _ _ h
set_option maxRecDepth 100000 in
set_option maxHeartbeats 4000000 in
theorem qX7_greatestSteps (l : Launch) (g : G) (hg : gOK g) {a0 : Int32} {a1 : Int64}  {s0 σe : St} {v : Int32} (h : mX7_greatestSteps a0 a1 s0 = some (v, σe)) : Mc l g yX7_greatestSteps cX7_greatestSteps 8 (some .int) { frames := 1, cells := 0, slots := 0, locals := 23 } [.int a0, .long a1] s0 (some (.int v)) σe := by
  refine k_enter hg pnRX7 rfl (Nat.le_of_ble_eq_true rfl) ?_
  intro WK E
  have C := kX_y E
  unfold mX7_greatestSteps at h
  show WK 0 [(0, .int a0), (1, .long a1)] [] s0
  refine k_iload_n C (dk dX7_greatestSteps_0 0 rfl) rfl 0 rfl ?_
  refine cl2_k h (fun x2 s1 hc h => ?_)
  refine k_cs (As := [.int a0]) (st := []) C (qX7_bit l g hg hc) (iW14 _ (List.mem_of_getElem? (i := 20) rfl)) (iW14 _ (List.mem_of_getElem? (i := 15) rfl)) (iW7 _ (List.mem_of_getElem? (i := 4) rfl)) (iW14 _ (List.mem_of_getElem? (i := 16) rfl)) rfl rfl hdX7_bit (by decide) rfl rfl (Nat.le_of_ble_eq_true rfl) (dk dX7_greatestSteps_0 1 rfl) ?_
  refine k_lload_n C (dk dX7_greatestSteps_0 2 rfl) rfl 1 rfl ?_
  refine k_land C (dk dX7_greatestSteps_0 3 rfl) ?_
  refine nmL h (fun x3 h => ?_)
  refine k_lstore_n (lv' := [(3, .long x3), (0, .int a0), (1, .long a1)]) C (dk dX7_greatestSteps_0 4 rfl) rfl (by decide) rfl ?_
  refine k_iconst (v := (0 : Int32)) C (dk dX7_greatestSteps_0 5 rfl) (by decide) ?_
  refine k_istore (lv' := [(5, .int (0 : Int32)), (3, .long x3), (0, .int a0), (1, .long a1)]) C (dk dX7_greatestSteps_0 6 rfl) (by decide) rfl ?_
  refine kl_L (P := (fun J10 => ∀ (y4 : Int64) (y5 : Int32) (s6 : St), J10 y4 y5 s6 = some (v, σe) → WK 10 [(1, .long a1), (3, .long y4), (5, .int y5)] [] s6)) h (fun _ _ _ h => nomatch h) (fun J10 hJ10 y4 y5 s6 h => ?_) (fun J10 hJ10 h => ?_)
  ·
    unfold mX7_greatestSteps_10 at h
    refine k_iload C (dk dX7_greatestSteps_0 7 rfl) 2 rfl ?_
    refine k_bipush (v := (36 : Int32)) C (dk dX7_greatestSteps_0 8 rfl) (by decide) ?_
    refine k_icmp_ge (tgt := 44) C (dk dX7_greatestSteps_0 9 rfl) (by decide) h (fun h => ?_) (fun h => ?_)
    ·
      refine k_bipush (v := (-4 : Int32)) C (dk dX7_greatestSteps_0 25 rfl) (by decide) ?_
      exact k_iret E (dk dX7_greatestSteps_0 26 rfl) h
    ·
      refine k_lload_n C (dk dX7_greatestSteps_0 10 rfl) rfl 1 rfl ?_
      refine cl2_k h (fun x8 s7 hc h => ?_)
      refine k_cs (As := [.long y4]) (st := []) C (qX7_spread l g hg hc) (iW14 _ (List.mem_of_getElem? (i := 24) rfl)) (iW14 _ (List.mem_of_getElem? (i := 25) rfl)) (iW7 _ (List.mem_of_getElem? (i := 4) rfl)) (iW14 _ (List.mem_of_getElem? (i := 26) rfl)) rfl rfl hdX7_spread (by decide) rfl rfl (Nat.le_of_ble_eq_true rfl) (dk dX7_greatestSteps_0 11 rfl) ?_
      refine k_lload_n C (dk dX7_greatestSteps_0 12 rfl) rfl 0 rfl ?_
      refine k_land C (dk dX7_greatestSteps_0 13 rfl) ?_
      refine nmL h (fun x9 h => ?_)
      refine k_lstore (lv' := [(6, .long x9), (1, .long a1), (3, .long y4), (5, .int y5)]) C (dk dX7_greatestSteps_0 14 rfl) (by decide) rfl ?_
      refine k_lload C (dk dX7_greatestSteps_0 15 rfl) 0 rfl ?_
      refine k_lload_n C (dk dX7_greatestSteps_0 16 rfl) rfl 2 rfl ?_
      refine k_lcmp C (dk dX7_greatestSteps_0 17 rfl) ?_
      refine k_if_ne (tgt := 35) C (dk dX7_greatestSteps_0 18 rfl) (by decide) h (fun h => ?_) (fun h => ?_)
      ·
        refine k_lload C (dk dX7_greatestSteps_0 21 rfl) 0 rfl ?_
        refine k_lstore_n (lv' := [(3, .long x9), (6, .long x9), (1, .long a1), (5, .int y5)]) C (dk dX7_greatestSteps_0 22 rfl) rfl (by decide) rfl ?_
        refine k_iinc (lv' := [(5, .int (y5 + 1)), (3, .long x9), (6, .long x9), (1, .long a1)]) C (dk dX7_greatestSteps_0 23 rfl) (j := 3) rfl rfl (by decide) rfl ?_
        refine k_goto (tgt := 10) C (dk dX7_greatestSteps_0 24 rfl) (by decide) ?_
        refine k_sub C [3, 1, 0] rfl ?_
        exact hJ10 _ _ _ h
      ·
        refine k_iload C (dk dX7_greatestSteps_0 19 rfl) 3 rfl ?_
        exact k_iret E (dk dX7_greatestSteps_0 20 rfl) h
  ·
    refine k_sub C [3, 1, 0] rfl ?_
    exact hJ10 _ _ _ h
set_option maxRecDepth 100000 in
set_option maxHeartbeats 4000000 in
theorem qX7_middleOf (l : Launch) (g : G) (hg : gOK g) {a0 : Int64}  {s0 σe : St} {v : Int32} (h : mX7_middleOf a0 s0 = some (v, σe)) : Mc l g yX7_middleOf cX7_middleOf 8 (some .int) { frames := 4, cells := 0, slots := 0, locals := 99 } [.long a0] s0 (some (.int v)) σe := by
  refine k_enter hg pnRX7 rfl (Nat.le_of_ble_eq_true rfl) ?_
  intro WK E
  have C := kX_y E
  unfold mX7_middleOf at h
  show WK 0 [(0, .long a0)] [] s0
  refine k_lload_n C (dk dX7_middleOf_0 0 rfl) rfl 0 rfl ?_
  refine cl2_k h (fun x2 s1 hc h => ?_)
  refine k_cs (As := [.long a0]) (st := []) C (qX7_largestIsland l g hg hc) (iW18 _ (List.mem_of_getElem? (i := 29) rfl)) (iW19 _ (List.mem_of_getElem? (i := 0) rfl)) (iW7 _ (List.mem_of_getElem? (i := 4) rfl)) (iW19 _ (List.mem_of_getElem? (i := 1) rfl)) rfl rfl hdX7_largestIsland (by decide) rfl rfl (Nat.le_of_ble_eq_true rfl) (dk dX7_middleOf_0 1 rfl) ?_
  refine k_lstore_n (lv' := [(2, .long x2), (0, .long a0)]) C (dk dX7_middleOf_0 2 rfl) rfl (by decide) rfl ?_
  refine k_bipush (v := (-4 : Int32)) C (dk dX7_middleOf_0 3 rfl) (by decide) ?_
  refine k_istore (lv' := [(4, .int (-4 : Int32)), (2, .long x2), (0, .long a0)]) C (dk dX7_middleOf_0 4 rfl) (by decide) rfl ?_
  refine k_bipush (v := (36 : Int32)) C (dk dX7_middleOf_0 5 rfl) (by decide) ?_
  refine k_istore (lv' := [(5, .int (36 : Int32)), (4, .int (-4 : Int32)), (2, .long x2), (0, .long a0)]) C (dk dX7_middleOf_0 6 rfl) (by decide) rfl ?_
  refine k_iconst (v := (0 : Int32)) C (dk dX7_middleOf_0 7 rfl) (by decide) ?_
  refine k_istore (lv' := [(6, .int (0 : Int32)), (5, .int (36 : Int32)), (4, .int (-4 : Int32)), (2, .long x2), (0, .long a0)]) C (dk dX7_middleOf_0 8 rfl) (by decide) rfl ?_
  refine kl_L (P := (fun J16 => ∀ (y3 : Int32) (y4 : Int32) (y5 : Int32) (s6 : St), J16 y3 y4 y5 s6 = some (v, σe) → WK 16 [(0, .long a0), (2, .long x2), (4, .int y3), (5, .int y4), (6, .int y5)] [] s6)) h (fun _ _ _ _ h => nomatch h) (fun J16 hJ16 y3 y4 y5 s6 h => ?_) (fun J16 hJ16 h => ?_)
  ·
    unfold mX7_middleOf_16 at h
    refine k_iload C (dk dX7_middleOf_0 9 rfl) 4 rfl ?_
    refine k_bipush (v := (36 : Int32)) C (dk dX7_middleOf_0 10 rfl) (by decide) ?_
    refine k_icmp_ge (tgt := 61) C (dk dX7_middleOf_0 11 rfl) (by decide) h (fun h => ?_) (fun h => ?_)
    ·
      refine k_iload C (dk dX7_middleOf_0 29 rfl) 2 rfl ?_
      exact k_iret E (dk dX7_middleOf_0 30 rfl) h
    ·
      refine k_lload_n C (dk dX7_middleOf_0 12 rfl) rfl 1 rfl ?_
      refine k_iload C (dk dX7_middleOf_0 13 rfl) 4 rfl ?_
      refine cl2_k h (fun x8 s7 hc h => ?_)
      refine k_cs (As := [.long x2, .int y5]) (st := []) C (qX7_has l g hg hc) (iW14 _ (List.mem_of_getElem? (i := 21) rfl)) (iW14 _ (List.mem_of_getElem? (i := 22) rfl)) (iW7 _ (List.mem_of_getElem? (i := 4) rfl)) (iW14 _ (List.mem_of_getElem? (i := 23) rfl)) rfl rfl hdX7_has (by decide) rfl rfl (Nat.le_of_ble_eq_true rfl) (dk dX7_middleOf_0 14 rfl) ?_
      refine kl_J (P := (fun J55 => ∀ (y9 : Int32) (y10 : Int32) (y11 : Int32) (s12 : St), J55 y9 y10 y11 s12 = some (v, σe) → WK 55 [(0, .long a0), (2, .long x2), (4, .int y9), (5, .int y10), (6, .int y11)] [] s12)) h (fun y9 y10 y11 s12 h => ?_) (fun J55 hJ55 h => ?_)
      ·
        unfold mX7_middleOf_55 at h
        refine k_iinc (lv' := [(6, .int (y11 + 1)), (0, .long a0), (2, .long x2), (4, .int y9), (5, .int y10)]) C (dk dX7_middleOf_0 27 rfl) (j := 4) rfl rfl (by decide) rfl ?_
        refine k_goto (tgt := 16) C (dk dX7_middleOf_0 28 rfl) (by decide) ?_
        refine k_sub C [1, 2, 3, 4, 0] rfl ?_
        exact hJ16 _ _ _ _ h
      ·
        refine k_if_eq (tgt := 55) C (dk dX7_middleOf_0 15 rfl) (by decide) h (fun h => ?_) (fun h => ?_)
        ·
          exact hJ55 _ _ _ _ h
        ·
          refine k_iload C (dk dX7_middleOf_0 16 rfl) 4 rfl ?_
          refine k_lload_n C (dk dX7_middleOf_0 17 rfl) rfl 0 rfl ?_
          refine cl2_k h (fun x14 s13 hc h => ?_)
          refine k_cs (As := [.int y5, .long a0]) (st := []) C (qX7_greatestSteps l g hg hc) (iW19 _ (List.mem_of_getElem? (i := 3) rfl)) (iW19 _ (List.mem_of_getElem? (i := 4) rfl)) (iW7 _ (List.mem_of_getElem? (i := 4) rfl)) (iW19 _ (List.mem_of_getElem? (i := 5) rfl)) rfl rfl hdX7_greatestSteps (by decide) rfl rfl (Nat.le_of_ble_eq_true rfl) (dk dX7_middleOf_0 18 rfl) ?_
          refine k_istore (lv' := [(7, .int x14), (0, .long a0), (2, .long x2), (4, .int y3), (5, .int y4), (6, .int y5)]) C (dk dX7_middleOf_0 19 rfl) (by decide) rfl ?_
          refine k_iload C (dk dX7_middleOf_0 20 rfl) 0 rfl ?_
          refine k_iload C (dk dX7_middleOf_0 21 rfl) 4 rfl ?_
          refine k_icmp_ge (tgt := 55) C (dk dX7_middleOf_0 22 rfl) (by decide) h (fun h => ?_) (fun h => ?_)
          ·
            refine k_sub C [1, 2, 3, 4, 5] rfl ?_
            exact hJ55 _ _ _ _ h
          ·
            refine k_iload C (dk dX7_middleOf_0 23 rfl) 0 rfl ?_
            refine k_istore (lv' := [(5, .int x14), (7, .int x14), (0, .long a0), (2, .long x2), (4, .int y3), (6, .int y5)]) C (dk dX7_middleOf_0 24 rfl) (by decide) rfl ?_
            refine k_iload C (dk dX7_middleOf_0 25 rfl) 5 rfl ?_
            refine k_istore (lv' := [(4, .int y5), (5, .int x14), (7, .int x14), (0, .long a0), (2, .long x2), (6, .int y5)]) C (dk dX7_middleOf_0 26 rfl) (by decide) rfl ?_
            refine k_sub C [3, 4, 0, 1, 5] rfl ?_
            exact hJ55 _ _ _ _ h
  ·
    refine k_sub C [4, 3, 2, 1, 0] rfl ?_
    exact hJ16 _ _ _ _ h
set_option maxRecDepth 100000 in
set_option maxHeartbeats 4000000 in
theorem qX8_digitsBehind (l : Launch) (g : G) (hg : gOK g) {a0 : Int64}  {s0 σe : St} {v : Int32} (h : mX8_digitsBehind a0 s0 = some (v, σe)) : Mc l g yX8_digitsBehind cX8_digitsBehind 2 (some .int) { frames := 0, cells := 0, slots := 0, locals := 0 } [.long a0] s0 (some (.int v)) σe := by
  refine k_enter hg pnRX8 rfl (Nat.le_of_ble_eq_true rfl) ?_
  intro WK E
  have C := kX_y E
  unfold mX8_digitsBehind at h
  show WK 0 [(0, .long a0)] [] s0
  refine k_lload_n C (dk dX8_digitsBehind_0 0 rfl) rfl 0 rfl ?_
  refine k_l2i C (dk dX8_digitsBehind_0 1 rfl) ?_
  by_cases e0 : a0.toInt32 = (100 : Int32)
  · replace h := (if_pos e0).symm.trans h
    refine k_tsIn (q := (100 : Int32)) (tgt := 106) C (dk dX8_digitsBehind_0 2 rfl) (by decide) (by decide) rfl (by decide) e0 ?_
    refine k_iconst (v := (2 : Int32)) C (dk dX8_digitsBehind_0 13 rfl) (by decide) ?_
    exact k_iret E (dk dX8_digitsBehind_0 14 rfl) h
  replace h := (if_neg e0).symm.trans h
  by_cases e3 : a0.toInt32 = (103 : Int32)
  · replace h := (if_pos e3).symm.trans h
    refine k_tsIn (q := (103 : Int32)) (tgt := 96) C (dk dX8_digitsBehind_0 2 rfl) (by decide) (by decide) rfl (by decide) e3 ?_
    refine k_iconst (v := (4 : Int32)) C (dk dX8_digitsBehind_0 3 rfl) (by decide) ?_
    exact k_iret E (dk dX8_digitsBehind_0 4 rfl) h
  replace h := (if_neg e3).symm.trans h
  by_cases e4 : a0.toInt32 = (104 : Int32)
  · replace h := (if_pos e4).symm.trans h
    refine k_tsIn (q := (104 : Int32)) (tgt := 98) C (dk dX8_digitsBehind_0 2 rfl) (by decide) (by decide) rfl (by decide) e4 ?_
    refine k_iconst (v := (2 : Int32)) C (dk dX8_digitsBehind_0 5 rfl) (by decide) ?_
    exact k_iret E (dk dX8_digitsBehind_0 6 rfl) h
  replace h := (if_neg e4).symm.trans h
  by_cases e10 : a0.toInt32 = (110 : Int32)
  · replace h := (if_pos e10).symm.trans h
    refine k_tsIn (q := (110 : Int32)) (tgt := 102) C (dk dX8_digitsBehind_0 2 rfl) (by decide) (by decide) rfl (by decide) e10 ?_
    refine k_iconst (v := (4 : Int32)) C (dk dX8_digitsBehind_0 9 rfl) (by decide) ?_
    exact k_iret E (dk dX8_digitsBehind_0 10 rfl) h
  replace h := (if_neg e10).symm.trans h
  by_cases e15 : a0.toInt32 = (115 : Int32)
  · replace h := (if_pos e15).symm.trans h
    refine k_tsIn (q := (115 : Int32)) (tgt := 100) C (dk dX8_digitsBehind_0 2 rfl) (by decide) (by decide) rfl (by decide) e15 ?_
    refine k_iconst (v := (2 : Int32)) C (dk dX8_digitsBehind_0 7 rfl) (by decide) ?_
    exact k_iret E (dk dX8_digitsBehind_0 8 rfl) h
  replace h := (if_neg e15).symm.trans h
  by_cases e19 : a0.toInt32 = (119 : Int32)
  · replace h := (if_pos e19).symm.trans h
    refine k_tsIn (q := (119 : Int32)) (tgt := 104) C (dk dX8_digitsBehind_0 2 rfl) (by decide) (by decide) rfl (by decide) e19 ?_
    refine k_iconst (v := (1 : Int32)) C (dk dX8_digitsBehind_0 11 rfl) (by decide) ?_
    exact k_iret E (dk dX8_digitsBehind_0 12 rfl) h
  replace h := (if_neg e19).symm.trans h
  by_cases f101 : a0.toInt32 = (101 : Int32)
  · refine k_tsIn (q := (101 : Int32)) (tgt := 108) C (dk dX8_digitsBehind_0 2 rfl) (by decide) (by decide) rfl (by decide) f101 ?_
    refine k_iconst (v := (-1 : Int32)) C (dk dX8_digitsBehind_0 15 rfl) (by decide) ?_
    exact k_iret E (dk dX8_digitsBehind_0 16 rfl) h
  by_cases f102 : a0.toInt32 = (102 : Int32)
  · refine k_tsIn (q := (102 : Int32)) (tgt := 108) C (dk dX8_digitsBehind_0 2 rfl) (by decide) (by decide) rfl (by decide) f102 ?_
    refine k_iconst (v := (-1 : Int32)) C (dk dX8_digitsBehind_0 15 rfl) (by decide) ?_
    exact k_iret E (dk dX8_digitsBehind_0 16 rfl) h
  by_cases f105 : a0.toInt32 = (105 : Int32)
  · refine k_tsIn (q := (105 : Int32)) (tgt := 108) C (dk dX8_digitsBehind_0 2 rfl) (by decide) (by decide) rfl (by decide) f105 ?_
    refine k_iconst (v := (-1 : Int32)) C (dk dX8_digitsBehind_0 15 rfl) (by decide) ?_
    exact k_iret E (dk dX8_digitsBehind_0 16 rfl) h
  by_cases f106 : a0.toInt32 = (106 : Int32)
  · refine k_tsIn (q := (106 : Int32)) (tgt := 108) C (dk dX8_digitsBehind_0 2 rfl) (by decide) (by decide) rfl (by decide) f106 ?_
    refine k_iconst (v := (-1 : Int32)) C (dk dX8_digitsBehind_0 15 rfl) (by decide) ?_
    exact k_iret E (dk dX8_digitsBehind_0 16 rfl) h
  by_cases f107 : a0.toInt32 = (107 : Int32)
  · refine k_tsIn (q := (107 : Int32)) (tgt := 108) C (dk dX8_digitsBehind_0 2 rfl) (by decide) (by decide) rfl (by decide) f107 ?_
    refine k_iconst (v := (-1 : Int32)) C (dk dX8_digitsBehind_0 15 rfl) (by decide) ?_
    exact k_iret E (dk dX8_digitsBehind_0 16 rfl) h
  by_cases f108 : a0.toInt32 = (108 : Int32)
  · refine k_tsIn (q := (108 : Int32)) (tgt := 108) C (dk dX8_digitsBehind_0 2 rfl) (by decide) (by decide) rfl (by decide) f108 ?_
    refine k_iconst (v := (-1 : Int32)) C (dk dX8_digitsBehind_0 15 rfl) (by decide) ?_
    exact k_iret E (dk dX8_digitsBehind_0 16 rfl) h
  by_cases f109 : a0.toInt32 = (109 : Int32)
  · refine k_tsIn (q := (109 : Int32)) (tgt := 108) C (dk dX8_digitsBehind_0 2 rfl) (by decide) (by decide) rfl (by decide) f109 ?_
    refine k_iconst (v := (-1 : Int32)) C (dk dX8_digitsBehind_0 15 rfl) (by decide) ?_
    exact k_iret E (dk dX8_digitsBehind_0 16 rfl) h
  by_cases f111 : a0.toInt32 = (111 : Int32)
  · refine k_tsIn (q := (111 : Int32)) (tgt := 108) C (dk dX8_digitsBehind_0 2 rfl) (by decide) (by decide) rfl (by decide) f111 ?_
    refine k_iconst (v := (-1 : Int32)) C (dk dX8_digitsBehind_0 15 rfl) (by decide) ?_
    exact k_iret E (dk dX8_digitsBehind_0 16 rfl) h
  by_cases f112 : a0.toInt32 = (112 : Int32)
  · refine k_tsIn (q := (112 : Int32)) (tgt := 108) C (dk dX8_digitsBehind_0 2 rfl) (by decide) (by decide) rfl (by decide) f112 ?_
    refine k_iconst (v := (-1 : Int32)) C (dk dX8_digitsBehind_0 15 rfl) (by decide) ?_
    exact k_iret E (dk dX8_digitsBehind_0 16 rfl) h
  by_cases f113 : a0.toInt32 = (113 : Int32)
  · refine k_tsIn (q := (113 : Int32)) (tgt := 108) C (dk dX8_digitsBehind_0 2 rfl) (by decide) (by decide) rfl (by decide) f113 ?_
    refine k_iconst (v := (-1 : Int32)) C (dk dX8_digitsBehind_0 15 rfl) (by decide) ?_
    exact k_iret E (dk dX8_digitsBehind_0 16 rfl) h
  by_cases f114 : a0.toInt32 = (114 : Int32)
  · refine k_tsIn (q := (114 : Int32)) (tgt := 108) C (dk dX8_digitsBehind_0 2 rfl) (by decide) (by decide) rfl (by decide) f114 ?_
    refine k_iconst (v := (-1 : Int32)) C (dk dX8_digitsBehind_0 15 rfl) (by decide) ?_
    exact k_iret E (dk dX8_digitsBehind_0 16 rfl) h
  by_cases f116 : a0.toInt32 = (116 : Int32)
  · refine k_tsIn (q := (116 : Int32)) (tgt := 108) C (dk dX8_digitsBehind_0 2 rfl) (by decide) (by decide) rfl (by decide) f116 ?_
    refine k_iconst (v := (-1 : Int32)) C (dk dX8_digitsBehind_0 15 rfl) (by decide) ?_
    exact k_iret E (dk dX8_digitsBehind_0 16 rfl) h
  by_cases f117 : a0.toInt32 = (117 : Int32)
  · refine k_tsIn (q := (117 : Int32)) (tgt := 108) C (dk dX8_digitsBehind_0 2 rfl) (by decide) (by decide) rfl (by decide) f117 ?_
    refine k_iconst (v := (-1 : Int32)) C (dk dX8_digitsBehind_0 15 rfl) (by decide) ?_
    exact k_iret E (dk dX8_digitsBehind_0 16 rfl) h
  by_cases f118 : a0.toInt32 = (118 : Int32)
  · refine k_tsIn (q := (118 : Int32)) (tgt := 108) C (dk dX8_digitsBehind_0 2 rfl) (by decide) (by decide) rfl (by decide) f118 ?_
    refine k_iconst (v := (-1 : Int32)) C (dk dX8_digitsBehind_0 15 rfl) (by decide) ?_
    exact k_iret E (dk dX8_digitsBehind_0 16 rfl) h
  refine k_tsOut (tgt := 108) C (dk dX8_digitsBehind_0 2 rfl) (by have n0 : a0.toInt32.toInt ≠ 100 := fun q => e0 (Int32.toInt_inj.mp (q.trans (by decide))); have n1 : a0.toInt32.toInt ≠ 101 := fun q => f101 (Int32.toInt_inj.mp (q.trans (by decide))); have n2 : a0.toInt32.toInt ≠ 102 := fun q => f102 (Int32.toInt_inj.mp (q.trans (by decide))); have n3 : a0.toInt32.toInt ≠ 103 := fun q => e3 (Int32.toInt_inj.mp (q.trans (by decide))); have n4 : a0.toInt32.toInt ≠ 104 := fun q => e4 (Int32.toInt_inj.mp (q.trans (by decide))); have n5 : a0.toInt32.toInt ≠ 105 := fun q => f105 (Int32.toInt_inj.mp (q.trans (by decide))); have n6 : a0.toInt32.toInt ≠ 106 := fun q => f106 (Int32.toInt_inj.mp (q.trans (by decide))); have n7 : a0.toInt32.toInt ≠ 107 := fun q => f107 (Int32.toInt_inj.mp (q.trans (by decide))); have n8 : a0.toInt32.toInt ≠ 108 := fun q => f108 (Int32.toInt_inj.mp (q.trans (by decide))); have n9 : a0.toInt32.toInt ≠ 109 := fun q => f109 (Int32.toInt_inj.mp (q.trans (by decide))); have n10 : a0.toInt32.toInt ≠ 110 := fun q => e10 (Int32.toInt_inj.mp (q.trans (by decide))); have n11 : a0.toInt32.toInt ≠ 111 := fun q => f111 (Int32.toInt_inj.mp (q.trans (by decide))); have n12 : a0.toInt32.toInt ≠ 112 := fun q => f112 (Int32.toInt_inj.mp (q.trans (by decide))); have n13 : a0.toInt32.toInt ≠ 113 := fun q => f113 (Int32.toInt_inj.mp (q.trans (by decide))); have n14 : a0.toInt32.toInt ≠ 114 := fun q => f114 (Int32.toInt_inj.mp (q.trans (by decide))); have n15 : a0.toInt32.toInt ≠ 115 := fun q => e15 (Int32.toInt_inj.mp (q.trans (by decide))); have n16 : a0.toInt32.toInt ≠ 116 := fun q => f116 (Int32.toInt_inj.mp (q.trans (by decide))); have n17 : a0.toInt32.toInt ≠ 117 := fun q => f117 (Int32.toInt_inj.mp (q.trans (by decide))); have n18 : a0.toInt32.toInt ≠ 118 := fun q => f118 (Int32.toInt_inj.mp (q.trans (by decide))); have n19 : a0.toInt32.toInt ≠ 119 := fun q => e19 (Int32.toInt_inj.mp (q.trans (by decide))); omega) (by decide) ?_
  refine k_iconst (v := (-1 : Int32)) C (dk dX8_digitsBehind_0 15 rfl) (by decide) ?_
  exact k_iret E (dk dX8_digitsBehind_0 16 rfl) h
set_option maxRecDepth 100000 in
set_option maxHeartbeats 4000000 in
theorem qX8_firstWrongByte (l : Launch) (g : G) (hg : gOK g) {o0 : Nat} (ho0 : kd o0 = 3) {s0 σe : St} {v : Int32} (h : mX8_firstWrongByte o0 s0 = some (v, σe)) : Mc l g yX8_firstWrongByte cX8_firstWrongByte 5 (some .int) { frames := 1, cells := 0, slots := 0, locals := 21 } [.ref (g.2.2 o0)] s0 (some (.int v)) σe := by
  refine k_enter hg pnRX8 rfl (Nat.le_of_ble_eq_true rfl) ?_
  intro WK E
  have C := kX_y E
  unfold mX8_firstWrongByte at h
  show WK 0 [(0, .ref (g.2.2 o0))] [] s0
  refine k_iconst (v := (-1 : Int32)) C (dk dX8_firstWrongByte_0 0 rfl) (by decide) ?_
  refine k_istore_n (lv' := [(1, .int (-1 : Int32)), (0, .ref (g.2.2 o0))]) C (dk dX8_firstWrongByte_0 1 rfl) rfl (by decide) rfl ?_
  refine k_iconst (v := (0 : Int32)) C (dk dX8_firstWrongByte_0 2 rfl) (by decide) ?_
  refine k_istore_n (lv' := [(2, .int (0 : Int32)), (1, .int (-1 : Int32)), (0, .ref (g.2.2 o0))]) C (dk dX8_firstWrongByte_0 3 rfl) rfl (by decide) rfl ?_
  refine kl_L (P := (fun J4 => ∀ (y1 : Int32) (y2 : Int32) (s3 : St), J4 y1 y2 s3 = some (v, σe) → WK 4 [(0, .ref (g.2.2 o0)), (1, .int y1), (2, .int y2)] [] s3)) h (fun _ _ _ h => nomatch h) (fun J4 hJ4 y1 y2 s3 h => ?_) (fun J4 hJ4 h => ?_)
  ·
    unfold mX8_firstWrongByte_4 at h
    refine k_iload_n C (dk dX8_firstWrongByte_0 4 rfl) rfl 2 rfl ?_
    refine k_aload_n C (dk dX8_firstWrongByte_0 5 rfl) rfl 0 rfl ?_
    refine k_getI (D := RX5) (T := TX5) (N := 6) (ci := 3) (k := 4) C iCX5 ho0 (by decide) rfl (by decide) (iW4 _ (List.mem_of_getElem? (i := 16) rfl)) rfl (dk dX8_firstWrongByte_0 6 rfl) h (fun x4 h => ?_)
    refine k_icmp_ge (tgt := 81) C (dk dX8_firstWrongByte_0 7 rfl) (by decide) h (fun h => ?_) (fun h => ?_)
    ·
      refine k_iload_n C (dk dX8_firstWrongByte_1 15 rfl) rfl 1 rfl ?_
      refine k_iconst (v := (-1 : Int32)) C (dk dX8_firstWrongByte_1 16 rfl) (by decide) ?_
      refine kl_J (P := (fun J98 => ∀ (s5 : St), J98 s5 = some (v, σe) → WK 98 [(0, .ref (g.2.2 o0))] [] s5)) h (fun s5 h => ?_) (fun J98 hJ98 h => ?_)
      ·
        unfold mX8_firstWrongByte_98 at h
        refine k_aload_n C (dk dX8_firstWrongByte_1 23 rfl) rfl 0 rfl ?_
        refine k_getI (D := RX5) (T := TX5) (N := 6) (ci := 3) (k := 4) C iCX5 ho0 (by decide) rfl (by decide) (iW4 _ (List.mem_of_getElem? (i := 16) rfl)) rfl (dk dX8_firstWrongByte_1 24 rfl) h (fun x6 h => ?_)
        exact k_iret E (dk dX8_firstWrongByte_1 25 rfl) h
      ·
        refine k_icmp_ne (tgt := 98) C (dk dX8_firstWrongByte_1 17 rfl) (by decide) h (fun h => ?_) (fun h => ?_)
        ·
          refine k_sub C [0] rfl ?_
          exact hJ98 _ h
        ·
          refine k_aload_n C (dk dX8_firstWrongByte_1 18 rfl) rfl 0 rfl ?_
          refine k_getI (D := RX5) (T := TX5) (N := 6) (ci := 3) (k := 4) C iCX5 ho0 (by decide) rfl (by decide) (iW4 _ (List.mem_of_getElem? (i := 16) rfl)) rfl (dk dX8_firstWrongByte_1 19 rfl) h (fun x7 h => ?_)
          refine k_if_le (tgt := 98) C (dk dX8_firstWrongByte_1 20 rfl) (by decide) h (fun h => ?_) (fun h => ?_)
          ·
            refine k_sub C [0] rfl ?_
            exact hJ98 _ h
          ·
            refine k_bipush (v := (-4 : Int32)) C (dk dX8_firstWrongByte_1 21 rfl) (by decide) ?_
            refine k_goto (tgt := 102) C (dk dX8_firstWrongByte_1 22 rfl) (by decide) ?_
            exact k_iret E (dk dX8_firstWrongByte_1 25 rfl) h
    ·
      refine k_aload_n C (dk dX8_firstWrongByte_0 8 rfl) rfl 0 rfl ?_
      refine k_iload_n C (dk dX8_firstWrongByte_0 9 rfl) rfl 2 rfl ?_
      refine cl2_k h (fun x9 s8 hc h => ?_)
      refine k_cv (T := TX5) (N := 6) (ci := 3) (ob := o0) (As := [.int y2]) (st := []) C (qX5_numberAt l g hg ho0 hc) (iW4 _ (List.mem_of_getElem? (i := 20) rfl)) (iW4 _ (List.mem_of_getElem? (i := 21) rfl)) (iW4 _ (List.mem_of_getElem? (i := 22) rfl)) (iW1 _ (List.mem_of_getElem? (i := 3) rfl)) (iW4 _ (List.mem_of_getElem? (i := 23) rfl)) rfl rfl hdX5_numberAt (by decide) ho0 (by decide) rfl rfl rfl (Nat.le_of_ble_eq_true rfl) (dk dX8_firstWrongByte_0 10 rfl) ?_
      refine k_lstore_n (lv' := [(3, .long x9), (0, .ref (g.2.2 o0)), (1, .int y1), (2, .int y2)]) C (dk dX8_firstWrongByte_0 11 rfl) rfl (by decide) rfl ?_
      refine k_iload_n C (dk dX8_firstWrongByte_0 12 rfl) rfl 2 rfl ?_
      refine k_iconst (v := (-1 : Int32)) C (dk dX8_firstWrongByte_0 13 rfl) (by decide) ?_
      refine kl_J (P := (fun J75 => ∀ (y10 : Int32) (y11 : Int32) (s12 : St), J75 y10 y11 s12 = some (v, σe) → WK 75 [(0, .ref (g.2.2 o0)), (1, .int y10), (2, .int y11)] [] s12)) h (fun y10 y11 s12 h => ?_) (fun J75 hJ75 h => ?_)
      ·
        unfold mX8_firstWrongByte_75 at h
        refine k_iinc (lv' := [(2, .int (y11 + 1)), (0, .ref (g.2.2 o0)), (1, .int y10)]) C (dk dX8_firstWrongByte_1 13 rfl) (j := 2) rfl rfl (by decide) rfl ?_
        refine k_goto (tgt := 4) C (dk dX8_firstWrongByte_1 14 rfl) (by decide) ?_
        refine k_sub C [1, 2, 0] rfl ?_
        exact hJ4 _ _ _ h
      ·
        refine k_icmp_ne (tgt := 35) C (dk dX8_firstWrongByte_0 14 rfl) (by decide) h (fun h => ?_) (fun h => ?_)
        ·
          refine k_iload_n C (dk dX8_firstWrongByte_0 23 rfl) rfl 2 rfl ?_
          refine k_if_ne (tgt := 54) C (dk dX8_firstWrongByte_0 24 rfl) (by decide) h (fun h => ?_) (fun h => ?_)
          ·
            refine k_lload_n C (dk dX8_firstWrongByte_1 2 rfl) rfl 0 rfl ?_
            refine k_ldc2 (v := (48 : Int64)) C (dk dX8_firstWrongByte_1 3 rfl) (iW4 _ (List.mem_of_getElem? (i := 18) rfl)) ?_
            refine k_lcmp C (dk dX8_firstWrongByte_1 4 rfl) ?_
            refine k_if_lt (tgt := 70) C (dk dX8_firstWrongByte_1 5 rfl) (by decide) h (fun h => ?_) (fun h => ?_)
            ·
              refine k_iload_n C (dk dX8_firstWrongByte_1 10 rfl) rfl 3 rfl ?_
              exact k_iret E (dk dX8_firstWrongByte_1 11 rfl) h
            ·
              refine k_lload_n C (dk dX8_firstWrongByte_1 6 rfl) rfl 0 rfl ?_
              refine k_ldc2 (v := (57 : Int64)) C (dk dX8_firstWrongByte_1 7 rfl) (iW4 _ (List.mem_of_getElem? (i := 19) rfl)) ?_
              refine k_lcmp C (dk dX8_firstWrongByte_1 8 rfl) ?_
              refine k_if_le (tgt := 72) C (dk dX8_firstWrongByte_1 9 rfl) (by decide) h (fun h => ?_) (fun h => ?_)
              ·
                refine k_iinc (lv' := [(1, .int (y1 + (-1))), (3, .long x9), (0, .ref (g.2.2 o0)), (2, .int y2)]) C (dk dX8_firstWrongByte_1 12 rfl) (j := 2) rfl rfl (by decide) rfl ?_
                refine k_sub C [2, 0, 3] rfl ?_
                exact hJ75 _ _ _ h
              ·
                refine k_iload_n C (dk dX8_firstWrongByte_1 10 rfl) rfl 3 rfl ?_
                exact k_iret E (dk dX8_firstWrongByte_1 11 rfl) h
          ·
            refine k_lload_n C (dk dX8_firstWrongByte_0 25 rfl) rfl 0 rfl ?_
            refine k_ldc2 (v := (59 : Int64)) C (dk dX8_firstWrongByte_0 26 rfl) (iW4 _ (List.mem_of_getElem? (i := 17) rfl)) ?_
            refine k_lcmp C (dk dX8_firstWrongByte_0 27 rfl) ?_
            refine k_if_eq (tgt := 49) C (dk dX8_firstWrongByte_0 28 rfl) (by decide) h (fun h => ?_) (fun h => ?_)
            ·
              refine k_iconst (v := (-1 : Int32)) C (dk dX8_firstWrongByte_0 31 rfl) (by decide) ?_
              refine k_istore_n (lv' := [(1, .int (-1 : Int32)), (3, .long x9), (0, .ref (g.2.2 o0)), (2, .int y2)]) C (dk dX8_firstWrongByte_1 0 rfl) rfl (by decide) rfl ?_
              refine k_goto (tgt := 75) C (dk dX8_firstWrongByte_1 1 rfl) (by decide) ?_
              refine k_sub C [2, 0, 3] rfl ?_
              exact hJ75 _ _ _ h
            ·
              refine k_iload_n C (dk dX8_firstWrongByte_0 29 rfl) rfl 3 rfl ?_
              exact k_iret E (dk dX8_firstWrongByte_0 30 rfl) h
        ·
          refine k_lload_n C (dk dX8_firstWrongByte_0 15 rfl) rfl 0 rfl ?_
          refine cl2_k h (fun x14 s13 hc h => ?_)
          refine k_cs (As := [.long x9]) (st := []) C (qX8_digitsBehind l g hg hc) (iW4 _ (List.mem_of_getElem? (i := 24) rfl)) (iW4 _ (List.mem_of_getElem? (i := 25) rfl)) (iW4 _ (List.mem_of_getElem? (i := 14) rfl)) (iW4 _ (List.mem_of_getElem? (i := 26) rfl)) rfl rfl hdX8_digitsBehind (by decide) rfl rfl (Nat.le_of_ble_eq_true rfl) (dk dX8_firstWrongByte_0 16 rfl) ?_
          refine k_istore_n (lv' := [(1, .int x14), (3, .long x9), (0, .ref (g.2.2 o0)), (2, .int y2)]) C (dk dX8_firstWrongByte_0 17 rfl) rfl (by decide) rfl ?_
          refine k_iload_n C (dk dX8_firstWrongByte_0 18 rfl) rfl 0 rfl ?_
          refine k_iconst (v := (-1 : Int32)) C (dk dX8_firstWrongByte_0 19 rfl) (by decide) ?_
          refine k_icmp_ne (tgt := 75) C (dk dX8_firstWrongByte_0 20 rfl) (by decide) h (fun h => ?_) (fun h => ?_)
          ·
            refine k_sub C [2, 0, 3] rfl ?_
            exact hJ75 _ _ _ h
          ·
            refine k_iload_n C (dk dX8_firstWrongByte_0 21 rfl) rfl 3 rfl ?_
            exact k_iret E (dk dX8_firstWrongByte_0 22 rfl) h
  ·
    refine k_sub C [2, 1, 0] rfl ?_
    exact hJ4 _ _ _ h
set_option maxRecDepth 100000 in
set_option maxHeartbeats 4000000 in
theorem qX8_statementsOf (l : Launch) (g : G) (hg : gOK g) {o0 : Nat} (ho0 : kd o0 = 3) {s0 σe : St} {v : Int32} (h : mX8_statementsOf o0 s0 = some (v, σe)) : Mc l g yX8_statementsOf cX8_statementsOf 3 (some .int) { frames := 1, cells := 0, slots := 0, locals := 21 } [.ref (g.2.2 o0)] s0 (some (.int v)) σe := by
  refine k_enter hg pnRX8 rfl (Nat.le_of_ble_eq_true rfl) ?_
  intro WK E
  have C := kX_y E
  unfold mX8_statementsOf at h
  show WK 0 [(0, .ref (g.2.2 o0))] [] s0
  refine k_iconst (v := (0 : Int32)) C (dk dX8_statementsOf_0 0 rfl) (by decide) ?_
  refine k_istore_n (lv' := [(1, .int (0 : Int32)), (0, .ref (g.2.2 o0))]) C (dk dX8_statementsOf_0 1 rfl) rfl (by decide) rfl ?_
  refine k_iconst (v := (0 : Int32)) C (dk dX8_statementsOf_0 2 rfl) (by decide) ?_
  refine k_istore_n (lv' := [(2, .int (0 : Int32)), (1, .int (0 : Int32)), (0, .ref (g.2.2 o0))]) C (dk dX8_statementsOf_0 3 rfl) rfl (by decide) rfl ?_
  refine kl_L (P := (fun J4 => ∀ (y1 : Int32) (y2 : Int32) (s3 : St), J4 y1 y2 s3 = some (v, σe) → WK 4 [(0, .ref (g.2.2 o0)), (1, .int y1), (2, .int y2)] [] s3)) h (fun _ _ _ h => nomatch h) (fun J4 hJ4 y1 y2 s3 h => ?_) (fun J4 hJ4 h => ?_)
  ·
    unfold mX8_statementsOf_4 at h
    refine k_iload_n C (dk dX8_statementsOf_0 4 rfl) rfl 2 rfl ?_
    refine k_aload_n C (dk dX8_statementsOf_0 5 rfl) rfl 0 rfl ?_
    refine k_getI (D := RX5) (T := TX5) (N := 6) (ci := 3) (k := 4) C iCX5 ho0 (by decide) rfl (by decide) (iW4 _ (List.mem_of_getElem? (i := 16) rfl)) rfl (dk dX8_statementsOf_0 6 rfl) h (fun x4 h => ?_)
    refine k_icmp_ge (tgt := 33) C (dk dX8_statementsOf_0 7 rfl) (by decide) h (fun h => ?_) (fun h => ?_)
    ·
      refine k_iload_n C (dk dX8_statementsOf_0 17 rfl) rfl 1 rfl ?_
      exact k_iret E (dk dX8_statementsOf_0 18 rfl) h
    ·
      refine k_aload_n C (dk dX8_statementsOf_0 8 rfl) rfl 0 rfl ?_
      refine k_iload_n C (dk dX8_statementsOf_0 9 rfl) rfl 2 rfl ?_
      refine cl2_k h (fun x6 s5 hc h => ?_)
      refine k_cv (T := TX5) (N := 6) (ci := 3) (ob := o0) (As := [.int y2]) (st := []) C (qX5_numberAt l g hg ho0 hc) (iW4 _ (List.mem_of_getElem? (i := 20) rfl)) (iW4 _ (List.mem_of_getElem? (i := 21) rfl)) (iW4 _ (List.mem_of_getElem? (i := 22) rfl)) (iW1 _ (List.mem_of_getElem? (i := 3) rfl)) (iW4 _ (List.mem_of_getElem? (i := 23) rfl)) rfl rfl hdX5_numberAt (by decide) ho0 (by decide) rfl rfl rfl (Nat.le_of_ble_eq_true rfl) (dk dX8_statementsOf_0 10 rfl) ?_
      refine k_ldc2 (v := (59 : Int64)) C (dk dX8_statementsOf_0 11 rfl) (iW4 _ (List.mem_of_getElem? (i := 17) rfl)) ?_
      refine k_lcmp C (dk dX8_statementsOf_0 12 rfl) ?_
      refine kl_J (P := (fun J27 => ∀ (y7 : Int32) (y8 : Int32) (s9 : St), J27 y7 y8 s9 = some (v, σe) → WK 27 [(0, .ref (g.2.2 o0)), (1, .int y7), (2, .int y8)] [] s9)) h (fun y7 y8 s9 h => ?_) (fun J27 hJ27 h => ?_)
      ·
        unfold mX8_statementsOf_27 at h
        refine k_iinc (lv' := [(2, .int (y8 + 1)), (0, .ref (g.2.2 o0)), (1, .int y7)]) C (dk dX8_statementsOf_0 15 rfl) (j := 2) rfl rfl (by decide) rfl ?_
        refine k_goto (tgt := 4) C (dk dX8_statementsOf_0 16 rfl) (by decide) ?_
        refine k_sub C [1, 2, 0] rfl ?_
        exact hJ4 _ _ _ h
      ·
        refine k_if_ne (tgt := 27) C (dk dX8_statementsOf_0 13 rfl) (by decide) h (fun h => ?_) (fun h => ?_)
        ·
          exact hJ27 _ _ _ h
        ·
          refine k_iinc (lv' := [(1, .int (y1 + 1)), (0, .ref (g.2.2 o0)), (2, .int y2)]) C (dk dX8_statementsOf_0 14 rfl) (j := 1) rfl rfl (by decide) rfl ?_
          refine k_sub C [1, 0, 2] rfl ?_
          exact hJ27 _ _ _ h
  ·
    refine k_sub C [2, 1, 0] rfl ?_
    exact hJ4 _ _ _ h
set_option maxRecDepth 100000 in
set_option maxHeartbeats 4000000 in
theorem qX8_digitAt (l : Launch) (g : G) (hg : gOK g) {o0 : Nat} {a1 : Int32} (ho0 : kd o0 = 3) {s0 σe : St} {v : Int32} (h : mX8_digitAt o0 a1 s0 = some (v, σe)) : Mc l g yX8_digitAt cX8_digitAt 2 (some .int) { frames := 1, cells := 0, slots := 0, locals := 21 } [.ref (g.2.2 o0), .int a1] s0 (some (.int v)) σe := by
  refine k_enter hg pnRX8 rfl (Nat.le_of_ble_eq_true rfl) ?_
  intro WK E
  have C := kX_y E
  unfold mX8_digitAt at h
  show WK 0 [(0, .ref (g.2.2 o0)), (1, .int a1)] [] s0
  refine k_aload_n C (dk dX8_digitAt_0 0 rfl) rfl 0 rfl ?_
  refine k_iload_n C (dk dX8_digitAt_0 1 rfl) rfl 1 rfl ?_
  refine cl2_k h (fun x2 s1 hc h => ?_)
  refine k_cv (T := TX5) (N := 6) (ci := 3) (ob := o0) (As := [.int a1]) (st := []) C (qX5_numberAt l g hg ho0 hc) (iW4 _ (List.mem_of_getElem? (i := 20) rfl)) (iW4 _ (List.mem_of_getElem? (i := 21) rfl)) (iW4 _ (List.mem_of_getElem? (i := 22) rfl)) (iW1 _ (List.mem_of_getElem? (i := 3) rfl)) (iW4 _ (List.mem_of_getElem? (i := 23) rfl)) rfl rfl hdX5_numberAt (by decide) ho0 (by decide) rfl rfl rfl (Nat.le_of_ble_eq_true rfl) (dk dX8_digitAt_0 2 rfl) ?_
  refine k_l2i C (dk dX8_digitAt_0 3 rfl) ?_
  refine k_bipush (v := (48 : Int32)) C (dk dX8_digitAt_0 4 rfl) (by decide) ?_
  refine k_isub C (dk dX8_digitAt_0 5 rfl) ?_
  exact k_iret E (dk dX8_digitAt_0 6 rfl) h
set_option maxRecDepth 100000 in
set_option maxHeartbeats 4000000 in
theorem qX8_twoDigitsAt (l : Launch) (g : G) (hg : gOK g) {o0 : Nat} {a1 : Int32} (ho0 : kd o0 = 3) {s0 σe : St} {v : Int32} (h : mX8_twoDigitsAt o0 a1 s0 = some (v, σe)) : Mc l g yX8_twoDigitsAt cX8_twoDigitsAt 2 (some .int) { frames := 2, cells := 0, slots := 0, locals := 42 } [.ref (g.2.2 o0), .int a1] s0 (some (.int v)) σe := by
  refine k_enter hg pnRX8 rfl (Nat.le_of_ble_eq_true rfl) ?_
  intro WK E
  have C := kX_y E
  unfold mX8_twoDigitsAt at h
  show WK 0 [(0, .ref (g.2.2 o0)), (1, .int a1)] [] s0
  refine k_bipush (v := (10 : Int32)) C (dk dX8_twoDigitsAt_0 0 rfl) (by decide) ?_
  refine k_aload_n C (dk dX8_twoDigitsAt_0 1 rfl) rfl 0 rfl ?_
  refine k_iload_n C (dk dX8_twoDigitsAt_0 2 rfl) rfl 1 rfl ?_
  refine cl2_k h (fun x2 s1 hc h => ?_)
  refine k_cs (As := [.ref (g.2.2 o0), .int a1]) (st := [.int (10 : Int32)]) C (qX8_digitAt l g hg ho0 hc) (iW5 _ (List.mem_of_getElem? (i := 10) rfl)) (iW5 _ (List.mem_of_getElem? (i := 11) rfl)) (iW4 _ (List.mem_of_getElem? (i := 14) rfl)) (iW5 _ (List.mem_of_getElem? (i := 12) rfl)) rfl rfl hdX8_digitAt (by decide) rfl rfl (Nat.le_of_ble_eq_true rfl) (dk dX8_twoDigitsAt_0 3 rfl) ?_
  refine k_imul C (dk dX8_twoDigitsAt_0 4 rfl) ?_
  refine k_aload_n C (dk dX8_twoDigitsAt_0 5 rfl) rfl 0 rfl ?_
  refine k_iload_n C (dk dX8_twoDigitsAt_0 6 rfl) rfl 1 rfl ?_
  refine k_iconst (v := (1 : Int32)) C (dk dX8_twoDigitsAt_0 7 rfl) (by decide) ?_
  refine k_iadd C (dk dX8_twoDigitsAt_0 8 rfl) ?_
  refine cl2_k h (fun x4 s3 hc h => ?_)
  refine k_cs (As := [.ref (g.2.2 o0), .int (a1 + (1 : Int32))]) (st := [.int ((10 : Int32) * x2)]) C (qX8_digitAt l g hg ho0 hc) (iW5 _ (List.mem_of_getElem? (i := 10) rfl)) (iW5 _ (List.mem_of_getElem? (i := 11) rfl)) (iW4 _ (List.mem_of_getElem? (i := 14) rfl)) (iW5 _ (List.mem_of_getElem? (i := 12) rfl)) rfl rfl hdX8_digitAt (by decide) rfl rfl (Nat.le_of_ble_eq_true rfl) (dk dX8_twoDigitsAt_0 9 rfl) ?_
  refine k_iadd C (dk dX8_twoDigitsAt_0 10 rfl) ?_
  exact k_iret E (dk dX8_twoDigitsAt_0 11 rfl) h
set_option maxRecDepth 100000 in
set_option maxHeartbeats 4000000 in
theorem qX8_isLaid (l : Launch) (g : G) (hg : gOK g) {o0 : Nat} {a1 : Int32} {o2 : Nat} (ho0 : kd o0 = 3) (ho2 : kd o2 = 1) {s0 σe : St} {v : Int32} (h : mX8_isLaid o0 a1 o2 s0 = some (v, σe)) : Mc l g yX8_isLaid cX8_isLaid 5 (some .boolean) { frames := 3, cells := 0, slots := 0, locals := 63 } [.ref (g.2.2 o0), .int a1, .ref (g.2.2 o2)] s0 (some (.int v)) σe := by
  refine k_enter hg pnRX8 rfl (Nat.le_of_ble_eq_true rfl) ?_
  intro WK E
  have C := kX_y E
  unfold mX8_isLaid at h
  show WK 0 [(0, .ref (g.2.2 o0)), (1, .int a1), (2, .ref (g.2.2 o2))] [] s0
  refine k_aload_n C (dk dX8_isLaid_0 0 rfl) rfl 0 rfl ?_
  refine k_iload_n C (dk dX8_isLaid_0 1 rfl) rfl 1 rfl ?_
  refine k_iconst (v := (1 : Int32)) C (dk dX8_isLaid_0 2 rfl) (by decide) ?_
  refine k_iadd C (dk dX8_isLaid_0 3 rfl) ?_
  refine cl2_k h (fun x2 s1 hc h => ?_)
  refine k_cs (As := [.ref (g.2.2 o0), .int (a1 + (1 : Int32))]) (st := []) C (qX8_digitAt l g hg ho0 hc) (iW5 _ (List.mem_of_getElem? (i := 10) rfl)) (iW5 _ (List.mem_of_getElem? (i := 11) rfl)) (iW4 _ (List.mem_of_getElem? (i := 14) rfl)) (iW5 _ (List.mem_of_getElem? (i := 12) rfl)) rfl rfl hdX8_digitAt (by decide) rfl rfl (Nat.le_of_ble_eq_true rfl) (dk dX8_isLaid_0 4 rfl) ?_
  refine k_istore_n (lv' := [(3, .int x2), (0, .ref (g.2.2 o0)), (1, .int a1), (2, .ref (g.2.2 o2))]) C (dk dX8_isLaid_0 5 rfl) rfl (by decide) rfl ?_
  refine k_aload_n C (dk dX8_isLaid_0 6 rfl) rfl 1 rfl ?_
  refine k_iload_n C (dk dX8_isLaid_0 7 rfl) rfl 2 rfl ?_
  refine k_iconst (v := (3 : Int32)) C (dk dX8_isLaid_0 8 rfl) (by decide) ?_
  refine k_iadd C (dk dX8_isLaid_0 9 rfl) ?_
  refine cl2_k h (fun x4 s3 hc h => ?_)
  refine k_cs (As := [.ref (g.2.2 o0), .int (a1 + (3 : Int32))]) (st := []) C (qX8_twoDigitsAt l g hg ho0 hc) (iW5 _ (List.mem_of_getElem? (i := 13) rfl)) (iW5 _ (List.mem_of_getElem? (i := 14) rfl)) (iW4 _ (List.mem_of_getElem? (i := 14) rfl)) (iW5 _ (List.mem_of_getElem? (i := 15) rfl)) rfl rfl hdX8_twoDigitsAt (by decide) rfl rfl (Nat.le_of_ble_eq_true rfl) (dk dX8_isLaid_0 10 rfl) ?_
  refine k_istore (lv' := [(4, .int x4), (3, .int x2), (0, .ref (g.2.2 o0)), (1, .int a1), (2, .ref (g.2.2 o2))]) C (dk dX8_isLaid_0 11 rfl) (by decide) rfl ?_
  refine k_iload_n C (dk dX8_isLaid_0 12 rfl) rfl 1 rfl ?_
  refine cl2_k h (fun x6 s5 hc h => ?_)
  refine k_cs (As := [.int x2]) (st := []) C (qX2_isKind l g hg hc) (iW5 _ (List.mem_of_getElem? (i := 16) rfl)) (iW5 _ (List.mem_of_getElem? (i := 17) rfl)) (iW5 _ (List.mem_of_getElem? (i := 18) rfl)) (iW5 _ (List.mem_of_getElem? (i := 19) rfl)) rfl rfl hdX2_isKind (by decide) rfl rfl (Nat.le_of_ble_eq_true rfl) (dk dX8_isLaid_0 13 rfl) ?_
  refine k_if_eq (tgt := 33) C (dk dX8_isLaid_0 14 rfl) (by decide) h (fun h => ?_) (fun h => ?_)
  ·
    refine k_iconst (v := (0 : Int32)) C (dk dX8_isLaid_0 19 rfl) (by decide) ?_
    exact k_zret E (dk dX8_isLaid_0 20 rfl) h
  ·
    refine k_iload C (dk dX8_isLaid_0 15 rfl) 0 rfl ?_
    refine k_i2l C (dk dX8_isLaid_0 16 rfl) ?_
    refine cl2_k h (fun x8 s7 hc h => ?_)
    refine k_cn (As := [.long x4.toInt64]) (st := []) C (qX10_isCell l g hg hc) (iW5 _ (List.mem_of_getElem? (i := 21) rfl)) rfl rfl (List.mem_of_getElem? (i := 0) rfl) (iW5 _ (List.mem_of_getElem? (i := 20) rfl)) (iW0 _ (List.mem_of_getElem? (i := 2) rfl)) hdX10_isCell (by decide) rfl rfl (Nat.le_of_ble_eq_true rfl) (dk dX8_isLaid_0 17 rfl) ?_
    refine k_if_ne (tgt := 35) C (dk dX8_isLaid_0 18 rfl) (by decide) h (fun h => ?_) (fun h => ?_)
    ·
      refine k_aload_n C (dk dX8_isLaid_0 21 rfl) rfl 4 rfl ?_
      refine k_iload C (dk dX8_isLaid_0 22 rfl) 0 rfl ?_
      refine k_iload_n C (dk dX8_isLaid_0 23 rfl) rfl 1 rfl ?_
      refine k_aload_n C (dk dX8_isLaid_0 24 rfl) rfl 2 rfl ?_
      refine k_iload_n C (dk dX8_isLaid_0 25 rfl) rfl 3 rfl ?_
      refine k_iconst (v := (2 : Int32)) C (dk dX8_isLaid_0 26 rfl) (by decide) ?_
      refine k_iadd C (dk dX8_isLaid_0 27 rfl) ?_
      refine cl2_k h (fun x10 s9 hc h => ?_)
      refine k_cs (As := [.ref (g.2.2 o0), .int (a1 + (2 : Int32))]) (st := [.int x2, .int x4, .ref (g.2.2 o2)]) C (qX8_digitAt l g hg ho0 hc) (iW5 _ (List.mem_of_getElem? (i := 10) rfl)) (iW5 _ (List.mem_of_getElem? (i := 11) rfl)) (iW4 _ (List.mem_of_getElem? (i := 14) rfl)) (iW5 _ (List.mem_of_getElem? (i := 12) rfl)) rfl rfl hdX8_digitAt (by decide) rfl rfl (Nat.le_of_ble_eq_true rfl) (dk dX8_isLaid_0 28 rfl) ?_
      refine cl1_k h (fun s11 hc h => ?_)
      refine k_cv (T := TX3) (N := 10) (ci := 1) (ob := o2) (As := [.int x4, .int x2, .int x10]) (st := []) C (qX3_layAt l g hg ho2 hc) (iW5 _ (List.mem_of_getElem? (i := 23) rfl)) (iW5 _ (List.mem_of_getElem? (i := 24) rfl)) (iW5 _ (List.mem_of_getElem? (i := 25) rfl)) (iW0 _ (List.mem_of_getElem? (i := 15) rfl)) (iW5 _ (List.mem_of_getElem? (i := 26) rfl)) rfl rfl hdX3_layAt (by decide) ho2 (by decide) rfl rfl rfl (Nat.le_of_ble_eq_true rfl) (dk dX8_isLaid_0 29 rfl) ?_
      refine k_iconst (v := (1 : Int32)) C (dk dX8_isLaid_0 30 rfl) (by decide) ?_
      exact k_zret E (dk dX8_isLaid_0 31 rfl) h
    ·
      refine k_iconst (v := (0 : Int32)) C (dk dX8_isLaid_0 19 rfl) (by decide) ?_
      exact k_zret E (dk dX8_isLaid_0 20 rfl) h
set_option maxRecDepth 100000 in
set_option maxHeartbeats 4000000 in
theorem qX8_isPlaced (l : Launch) (g : G) (hg : gOK g) {a0 : Int32} {a1 : Int32} {o2 : Nat} (ho2 : kd o2 = 1) {s0 σe : St} {v : Int32} (h : mX8_isPlaced a0 a1 o2 s0 = some (v, σe)) : Mc l g yX8_isPlaced cX8_isPlaced 3 (some .boolean) { frames := 2, cells := 0, slots := 0, locals := 43 } [.int a0, .int a1, .ref (g.2.2 o2)] s0 (some (.int v)) σe := by
  refine k_enter hg pnRX8 rfl (Nat.le_of_ble_eq_true rfl) ?_
  intro WK E
  have C := kX_y E
  unfold mX8_isPlaced at h
  show WK 0 [(0, .int a0), (1, .int a1), (2, .ref (g.2.2 o2))] [] s0
  refine k_aload_n C (dk dX8_isPlaced_0 0 rfl) rfl 2 rfl ?_
  refine k_iload_n C (dk dX8_isPlaced_0 1 rfl) rfl 1 rfl ?_
  refine cl2_k h (fun x2 s1 hc h => ?_)
  refine k_cv (T := TX3) (N := 10) (ci := 1) (ob := o2) (As := [.int a1]) (st := []) C (qX3_isOpen l g hg ho2 hc) (iW6 _ (List.mem_of_getElem? (i := 0) rfl)) (iW6 _ (List.mem_of_getElem? (i := 1) rfl)) (iW6 _ (List.mem_of_getElem? (i := 2) rfl)) (iW0 _ (List.mem_of_getElem? (i := 15) rfl)) (iW6 _ (List.mem_of_getElem? (i := 3) rfl)) rfl rfl hdX3_isOpen (by decide) ho2 (by decide) rfl rfl rfl (Nat.le_of_ble_eq_true rfl) (dk dX8_isPlaced_0 2 rfl) ?_
  refine k_if_ne (tgt := 10) C (dk dX8_isPlaced_0 3 rfl) (by decide) h (fun h => ?_) (fun h => ?_)
  ·
    refine k_aload_n C (dk dX8_isPlaced_0 6 rfl) rfl 2 rfl ?_
    refine k_iload_n C (dk dX8_isPlaced_0 7 rfl) rfl 0 rfl ?_
    refine k_iload_n C (dk dX8_isPlaced_0 8 rfl) rfl 1 rfl ?_
    refine cl1_k h (fun s3 hc h => ?_)
    refine k_cv (T := TX3) (N := 10) (ci := 1) (ob := o2) (As := [.int a0, .int a1]) (st := []) C (qX3_place l g hg ho2 hc) (iW6 _ (List.mem_of_getElem? (i := 7) rfl)) (iW6 _ (List.mem_of_getElem? (i := 8) rfl)) (iW6 _ (List.mem_of_getElem? (i := 9) rfl)) (iW0 _ (List.mem_of_getElem? (i := 15) rfl)) (iW6 _ (List.mem_of_getElem? (i := 10) rfl)) rfl rfl hdX3_place (by decide) ho2 (by decide) rfl rfl rfl (Nat.le_of_ble_eq_true rfl) (dk dX8_isPlaced_0 9 rfl) ?_
    refine k_iconst (v := (1 : Int32)) C (dk dX8_isPlaced_0 10 rfl) (by decide) ?_
    exact k_zret E (dk dX8_isPlaced_0 11 rfl) h
  ·
    refine k_iconst (v := (0 : Int32)) C (dk dX8_isPlaced_0 4 rfl) (by decide) ?_
    exact k_zret E (dk dX8_isPlaced_0 5 rfl) h
set_option maxRecDepth 100000 in
set_option maxHeartbeats 4000000 in
theorem qX10_isDistance (l : Launch) (g : G) (hg : gOK g) {a0 : Int32}  {s0 σe : St} {v : Int32} (h : mX10_isDistance a0 s0 = some (v, σe)) : Mc l g yX10_isDistance cX10_isDistance 1 (some .boolean) { frames := 0, cells := 0, slots := 0, locals := 0 } [.int a0] s0 (some (.int v)) σe := by
  refine k_enter hg pnRX10 rfl (Nat.le_of_ble_eq_true rfl) ?_
  intro WK E
  have C := kX_y E
  unfold mX10_isDistance at h
  show WK 0 [(0, .int a0)] [] s0
  refine k_iload_n C (dk dX10_isDistance_0 0 rfl) rfl 0 rfl ?_
  refine k_if_lt (tgt := 14) C (dk dX10_isDistance_0 1 rfl) (by decide) h (fun h => ?_) (fun h => ?_)
  ·
    refine k_iconst (v := (0 : Int32)) C (dk dX10_isDistance_0 7 rfl) (by decide) ?_
    exact k_zret E (dk dX10_isDistance_0 8 rfl) h
  ·
    refine k_iload_n C (dk dX10_isDistance_0 2 rfl) rfl 0 rfl ?_
    refine k_bipush (v := (20 : Int32)) C (dk dX10_isDistance_0 3 rfl) (by decide) ?_
    refine k_icmp_gt (tgt := 14) C (dk dX10_isDistance_0 4 rfl) (by decide) h (fun h => ?_) (fun h => ?_)
    ·
      refine k_iconst (v := (0 : Int32)) C (dk dX10_isDistance_0 7 rfl) (by decide) ?_
      exact k_zret E (dk dX10_isDistance_0 8 rfl) h
    ·
      refine k_iconst (v := (1 : Int32)) C (dk dX10_isDistance_0 5 rfl) (by decide) ?_
      refine k_goto (tgt := 15) C (dk dX10_isDistance_0 6 rfl) (by decide) ?_
      exact k_zret E (dk dX10_isDistance_0 8 rfl) h
set_option maxRecDepth 100000 in
set_option maxHeartbeats 4000000 in
theorem qX8_isBound (l : Launch) (g : G) (hg : gOK g) {o0 : Nat} {a1 : Int32} {o2 : Nat} (ho0 : kd o0 = 3) (ho2 : kd o2 = 1) {s0 σe : St} {v : Int32} (h : mX8_isBound o0 a1 o2 s0 = some (v, σe)) : Mc l g yX8_isBound cX8_isBound 5 (some .boolean) { frames := 3, cells := 0, slots := 0, locals := 63 } [.ref (g.2.2 o0), .int a1, .ref (g.2.2 o2)] s0 (some (.int v)) σe := by
  refine k_enter hg pnRX8 rfl (Nat.le_of_ble_eq_true rfl) ?_
  intro WK E
  have C := kX_y E
  unfold mX8_isBound at h
  show WK 0 [(0, .ref (g.2.2 o0)), (1, .int a1), (2, .ref (g.2.2 o2))] [] s0
  refine k_aload_n C (dk dX8_isBound_0 0 rfl) rfl 0 rfl ?_
  refine k_iload_n C (dk dX8_isBound_0 1 rfl) rfl 1 rfl ?_
  refine k_iconst (v := (1 : Int32)) C (dk dX8_isBound_0 2 rfl) (by decide) ?_
  refine k_iadd C (dk dX8_isBound_0 3 rfl) ?_
  refine cl2_k h (fun x2 s1 hc h => ?_)
  refine k_cs (As := [.ref (g.2.2 o0), .int (a1 + (1 : Int32))]) (st := []) C (qX8_twoDigitsAt l g hg ho0 hc) (iW5 _ (List.mem_of_getElem? (i := 13) rfl)) (iW5 _ (List.mem_of_getElem? (i := 14) rfl)) (iW4 _ (List.mem_of_getElem? (i := 14) rfl)) (iW5 _ (List.mem_of_getElem? (i := 15) rfl)) rfl rfl hdX8_twoDigitsAt (by decide) rfl rfl (Nat.le_of_ble_eq_true rfl) (dk dX8_isBound_0 4 rfl) ?_
  refine k_istore_n (lv' := [(3, .int x2), (0, .ref (g.2.2 o0)), (1, .int a1), (2, .ref (g.2.2 o2))]) C (dk dX8_isBound_0 5 rfl) rfl (by decide) rfl ?_
  refine k_aload_n C (dk dX8_isBound_0 6 rfl) rfl 1 rfl ?_
  refine k_iload_n C (dk dX8_isBound_0 7 rfl) rfl 2 rfl ?_
  refine k_iconst (v := (3 : Int32)) C (dk dX8_isBound_0 8 rfl) (by decide) ?_
  refine k_iadd C (dk dX8_isBound_0 9 rfl) ?_
  refine cl2_k h (fun x4 s3 hc h => ?_)
  refine k_cs (As := [.ref (g.2.2 o0), .int (a1 + (3 : Int32))]) (st := []) C (qX8_twoDigitsAt l g hg ho0 hc) (iW5 _ (List.mem_of_getElem? (i := 13) rfl)) (iW5 _ (List.mem_of_getElem? (i := 14) rfl)) (iW4 _ (List.mem_of_getElem? (i := 14) rfl)) (iW5 _ (List.mem_of_getElem? (i := 15) rfl)) rfl rfl hdX8_twoDigitsAt (by decide) rfl rfl (Nat.le_of_ble_eq_true rfl) (dk dX8_isBound_0 10 rfl) ?_
  refine k_istore (lv' := [(4, .int x4), (3, .int x2), (0, .ref (g.2.2 o0)), (1, .int a1), (2, .ref (g.2.2 o2))]) C (dk dX8_isBound_0 11 rfl) (by decide) rfl ?_
  refine k_iload_n C (dk dX8_isBound_0 12 rfl) rfl 1 rfl ?_
  refine cl2_k h (fun x6 s5 hc h => ?_)
  refine k_cn (As := [.int x2]) (st := []) C (qX10_isDistance l g hg hc) (iW6 _ (List.mem_of_getElem? (i := 17) rfl)) rfl rfl (List.mem_of_getElem? (i := 2) rfl) (iW6 _ (List.mem_of_getElem? (i := 16) rfl)) (iW0 _ (List.mem_of_getElem? (i := 2) rfl)) hdX10_isDistance (by decide) rfl rfl (Nat.le_of_ble_eq_true rfl) (dk dX8_isBound_0 13 rfl) ?_
  refine k_if_eq (tgt := 32) C (dk dX8_isBound_0 14 rfl) (by decide) h (fun h => ?_) (fun h => ?_)
  ·
    refine k_iconst (v := (0 : Int32)) C (dk dX8_isBound_0 18 rfl) (by decide) ?_
    exact k_zret E (dk dX8_isBound_0 19 rfl) h
  ·
    refine k_iload C (dk dX8_isBound_0 15 rfl) 0 rfl ?_
    refine cl2_k h (fun x8 s7 hc h => ?_)
    refine k_cn (As := [.int x4]) (st := []) C (qX10_isDistance l g hg hc) (iW6 _ (List.mem_of_getElem? (i := 17) rfl)) rfl rfl (List.mem_of_getElem? (i := 2) rfl) (iW6 _ (List.mem_of_getElem? (i := 16) rfl)) (iW0 _ (List.mem_of_getElem? (i := 2) rfl)) hdX10_isDistance (by decide) rfl rfl (Nat.le_of_ble_eq_true rfl) (dk dX8_isBound_0 16 rfl) ?_
    refine k_if_ne (tgt := 34) C (dk dX8_isBound_0 17 rfl) (by decide) h (fun h => ?_) (fun h => ?_)
    ·
      refine k_aload_n C (dk dX8_isBound_0 20 rfl) rfl 4 rfl ?_
      refine k_iload_n C (dk dX8_isBound_0 21 rfl) rfl 1 rfl ?_
      refine k_putI (D := RX3) (T := TX3) (N := 10) (ci := 1) (k := 3) C iCX3 tyX3_ok nmX3 ho2 (by decide) rfl (by decide) (iW6 _ (List.mem_of_getElem? (i := 14) rfl)) rfl rfl flq1_3 flp1_3 (dk dX8_isBound_0 22 rfl) h (fun s9 h => ?_)
      refine k_aload_n C (dk dX8_isBound_0 23 rfl) rfl 4 rfl ?_
      refine k_iload C (dk dX8_isBound_0 24 rfl) 0 rfl ?_
      refine k_putI (D := RX3) (T := TX3) (N := 10) (ci := 1) (k := 4) C iCX3 tyX3_ok nmX3 ho2 (by decide) rfl (by decide) (iW6 _ (List.mem_of_getElem? (i := 15) rfl)) rfl rfl flq1_4 flp1_4 (dk dX8_isBound_0 25 rfl) h (fun s10 h => ?_)
      refine k_iconst (v := (1 : Int32)) C (dk dX8_isBound_0 26 rfl) (by decide) ?_
      exact k_zret E (dk dX8_isBound_0 27 rfl) h
    ·
      refine k_iconst (v := (0 : Int32)) C (dk dX8_isBound_0 18 rfl) (by decide) ?_
      exact k_zret E (dk dX8_isBound_0 19 rfl) h
