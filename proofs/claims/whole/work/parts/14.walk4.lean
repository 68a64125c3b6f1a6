set_option maxRecDepth 100000 in
set_option maxHeartbeats 4000000 in
theorem qX10_far (l : Launch) (g : G) (hg : gOK g) {a1 : Int32} {a2 : Int32}  {s0 σe : St} {v : Int32} (h : mX10_far a1 a2 s0 = some (v, σe)) : Mc l g yX10_far cX10_far 3 (some .int) { frames := 3, cells := 0, slots := 0, locals := 67 } [.ref (g.2.2 0), .int a1, .int a2] s0 (some (.int v)) σe := by
  refine k_enter hg pnRX10 rfl (Nat.le_of_ble_eq_true rfl) ?_
  intro WK E
  have C := kX_y E
  unfold mX10_far at h
  show WK 0 [(0, .ref (g.2.2 0)), (1, .int a1), (2, .int a2)] [] s0
  refine k_iload_n C (dk dX10_far_0 0 rfl) rfl 1 rfl ?_
  refine k_i2l C (dk dX10_far_0 1 rfl) ?_
  refine cl2_k h (fun x2 s1 hc h => ?_)
  refine k_cs (As := [.long a1.toInt64]) (st := []) C (qX10_isCell l g hg hc) (iW10 _ (List.mem_of_getElem? (i := 29) rfl)) (iW5 _ (List.mem_of_getElem? (i := 20) rfl)) (iW0 _ (List.mem_of_getElem? (i := 2) rfl)) (iW5 _ (List.mem_of_getElem? (i := 21) rfl)) rfl rfl hdX10_isCell (by decide) rfl rfl (Nat.le_of_ble_eq_true rfl) (dk dX10_far_0 2 rfl) ?_
  refine k_if_eq (tgt := 28) C (dk dX10_far_0 3 rfl) (by decide) h (fun h => ?_) (fun h => ?_)
  ·
    refine k_iconst (v := (-1 : Int32)) C (dk dX10_far_0 14 rfl) (by decide) ?_
    exact k_iret E (dk dX10_far_0 15 rfl) h
  ·
    refine k_iload_n C (dk dX10_far_0 4 rfl) rfl 2 rfl ?_
    refine k_i2l C (dk dX10_far_0 5 rfl) ?_
    refine cl2_k h (fun x4 s3 hc h => ?_)
    refine k_cs (As := [.long a2.toInt64]) (st := []) C (qX10_isCell l g hg hc) (iW10 _ (List.mem_of_getElem? (i := 29) rfl)) (iW5 _ (List.mem_of_getElem? (i := 20) rfl)) (iW0 _ (List.mem_of_getElem? (i := 2) rfl)) (iW5 _ (List.mem_of_getElem? (i := 21) rfl)) rfl rfl hdX10_isCell (by decide) rfl rfl (Nat.le_of_ble_eq_true rfl) (dk dX10_far_0 6 rfl) ?_
    refine k_if_eq (tgt := 28) C (dk dX10_far_0 7 rfl) (by decide) h (fun h => ?_) (fun h => ?_)
    ·
      refine k_iconst (v := (-1 : Int32)) C (dk dX10_far_0 14 rfl) (by decide) ?_
      exact k_iret E (dk dX10_far_0 15 rfl) h
    ·
      refine k_aload_n C (dk dX10_far_0 8 rfl) rfl 0 rfl ?_
      refine k_getR (q := 1) (D := RX10) (T := TX10) (N := 9) (ci := 5) (k := 0) C iCX10 rfl (by decide) rfl (by decide) (iW0 _ (List.mem_of_getElem? (i := 16) rfl)) rfl (dk dX10_far_0 9 rfl) ?_
      refine k_iload_n C (dk dX10_far_0 10 rfl) rfl 1 rfl ?_
      refine k_iload_n C (dk dX10_far_0 11 rfl) rfl 2 rfl ?_
      refine cl2_k h (fun x6 s5 hc h => ?_)
      refine k_cv (T := TX3) (N := 10) (ci := 1) (ob := 1) (As := [.int a1, .int a2]) (st := []) C (qX3_farBetween l g hg rfl hc) (iW13 _ (List.mem_of_getElem? (i := 22) rfl)) (iW7 _ (List.mem_of_getElem? (i := 12) rfl)) (iW7 _ (List.mem_of_getElem? (i := 13) rfl)) (iW0 _ (List.mem_of_getElem? (i := 15) rfl)) (iW7 _ (List.mem_of_getElem? (i := 14) rfl)) rfl rfl hdX3_farBetween (by decide) rfl (by decide) rfl rfl rfl (Nat.le_of_ble_eq_true rfl) (dk dX10_far_0 12 rfl) ?_
      refine k_goto (tgt := 29) C (dk dX10_far_0 13 rfl) (by decide) ?_
      exact k_iret E (dk dX10_far_0 15 rfl) h
set_option maxRecDepth 100000 in
set_option maxHeartbeats 4000000 in
theorem qX10_steps (l : Launch) (g : G) (hg : gOK g) {a1 : Int32} {a2 : Int32}  {s0 σe : St} {v : Int32} (h : mX10_steps a1 a2 s0 = some (v, σe)) : Mc l g yX10_steps cX10_steps 3 (some .int) { frames := 3, cells := 0, slots := 0, locals := 68 } [.ref (g.2.2 0), .int a1, .int a2] s0 (some (.int v)) σe := by
  refine k_enter hg pnRX10 rfl (Nat.le_of_ble_eq_true rfl) ?_
  intro WK E
  have C := kX_y E
  unfold mX10_steps at h
  show WK 0 [(0, .ref (g.2.2 0)), (1, .int a1), (2, .int a2)] [] s0
  refine k_iload_n C (dk dX10_steps_0 0 rfl) rfl 1 rfl ?_
  refine k_i2l C (dk dX10_steps_0 1 rfl) ?_
  refine cl2_k h (fun x2 s1 hc h => ?_)
  refine k_cs (As := [.long a1.toInt64]) (st := []) C (qX10_isCell l g hg hc) (iW10 _ (List.mem_of_getElem? (i := 29) rfl)) (iW5 _ (List.mem_of_getElem? (i := 20) rfl)) (iW0 _ (List.mem_of_getElem? (i := 2) rfl)) (iW5 _ (List.mem_of_getElem? (i := 21) rfl)) rfl rfl hdX10_isCell (by decide) rfl rfl (Nat.le_of_ble_eq_true rfl) (dk dX10_steps_0 2 rfl) ?_
  refine k_if_eq (tgt := 31) C (dk dX10_steps_0 3 rfl) (by decide) h (fun h => ?_) (fun h => ?_)
  ·
    refine k_iconst (v := (-1 : Int32)) C (dk dX10_steps_0 15 rfl) (by decide) ?_
    exact k_iret E (dk dX10_steps_0 16 rfl) h
  ·
    refine k_iload_n C (dk dX10_steps_0 4 rfl) rfl 2 rfl ?_
    refine k_i2l C (dk dX10_steps_0 5 rfl) ?_
    refine cl2_k h (fun x4 s3 hc h => ?_)
    refine k_cs (As := [.long a2.toInt64]) (st := []) C (qX10_isCell l g hg hc) (iW10 _ (List.mem_of_getElem? (i := 29) rfl)) (iW5 _ (List.mem_of_getElem? (i := 20) rfl)) (iW0 _ (List.mem_of_getElem? (i := 2) rfl)) (iW5 _ (List.mem_of_getElem? (i := 21) rfl)) rfl rfl hdX10_isCell (by decide) rfl rfl (Nat.le_of_ble_eq_true rfl) (dk dX10_steps_0 6 rfl) ?_
    refine k_if_eq (tgt := 31) C (dk dX10_steps_0 7 rfl) (by decide) h (fun h => ?_) (fun h => ?_)
    ·
      refine k_iconst (v := (-1 : Int32)) C (dk dX10_steps_0 15 rfl) (by decide) ?_
      exact k_iret E (dk dX10_steps_0 16 rfl) h
    ·
      refine k_iload_n C (dk dX10_steps_0 8 rfl) rfl 1 rfl ?_
      refine k_iload_n C (dk dX10_steps_0 9 rfl) rfl 2 rfl ?_
      refine k_aload_n C (dk dX10_steps_0 10 rfl) rfl 0 rfl ?_
      refine k_getR (q := 1) (D := RX10) (T := TX10) (N := 9) (ci := 5) (k := 0) C iCX10 rfl (by decide) rfl (by decide) (iW0 _ (List.mem_of_getElem? (i := 16) rfl)) rfl (dk dX10_steps_0 11 rfl) ?_
      refine cl2_k h (fun x6 s5 hc h => ?_)
      refine k_cv (T := TX3) (N := 10) (ci := 1) (ob := 1) (As := []) (st := [.int a2, .int a1]) C (qX3_openCells l g hg rfl hc) (iW14 _ (List.mem_of_getElem? (i := 10) rfl)) (iW14 _ (List.mem_of_getElem? (i := 11) rfl)) (iW14 _ (List.mem_of_getElem? (i := 12) rfl)) (iW0 _ (List.mem_of_getElem? (i := 15) rfl)) (iW14 _ (List.mem_of_getElem? (i := 13) rfl)) rfl rfl hdX3_openCells (by decide) rfl (by decide) rfl rfl rfl (Nat.le_of_ble_eq_true rfl) (dk dX10_steps_0 12 rfl) ?_
      refine cl2_k h (fun x8 s7 hc h => ?_)
      refine k_cs (As := [.int a1, .int a2, .long x6]) (st := []) C (qX7_stepsBetween l g hg hc) (iW14 _ (List.mem_of_getElem? (i := 17) rfl)) (iW14 _ (List.mem_of_getElem? (i := 18) rfl)) (iW7 _ (List.mem_of_getElem? (i := 4) rfl)) (iW14 _ (List.mem_of_getElem? (i := 19) rfl)) rfl rfl hdX7_stepsBetween (by decide) rfl rfl (Nat.le_of_ble_eq_true rfl) (dk dX10_steps_0 13 rfl) ?_
      refine k_goto (tgt := 32) C (dk dX10_steps_0 14 rfl) (by decide) ?_
      exact k_iret E (dk dX10_steps_0 16 rfl) h
set_option maxRecDepth 100000 in
set_option maxHeartbeats 4000000 in
theorem qX10_pairs (l : Launch) (g : G) (hg : gOK g) {a1 : Int32}  {s0 σe : St} {v : Int32} (h : mX10_pairs a1 s0 = some (v, σe)) : Mc l g yX10_pairs cX10_pairs 2 (some .int) { frames := 4, cells := 0, slots := 0, locals := 90 } [.ref (g.2.2 0), .int a1] s0 (some (.int v)) σe := by
  refine k_enter hg pnRX10 rfl (Nat.le_of_ble_eq_true rfl) ?_
  intro WK E
  have C := kX_y E
  unfold mX10_pairs at h
  show WK 0 [(0, .ref (g.2.2 0)), (1, .int a1)] [] s0
  refine k_iload_n C (dk dX10_pairs_0 0 rfl) rfl 1 rfl ?_
  refine k_iconst (v := (-1 : Int32)) C (dk dX10_pairs_0 1 rfl) (by decide) ?_
  refine k_icmp_ge (tgt := 7) C (dk dX10_pairs_0 2 rfl) (by decide) h (fun h => ?_) (fun h => ?_)
  ·
    refine k_aload_n C (dk dX10_pairs_0 5 rfl) rfl 0 rfl ?_
    refine k_getR (q := 28) (D := RX10) (T := TX10) (N := 9) (ci := 5) (k := 4) C iCX10 rfl (by decide) rfl (by decide) (iW0 _ (List.mem_of_getElem? (i := 22) rfl)) rfl (dk dX10_pairs_0 6 rfl) ?_
    refine k_aload_n C (dk dX10_pairs_0 7 rfl) rfl 0 rfl ?_
    refine k_getR (q := 1) (D := RX10) (T := TX10) (N := 9) (ci := 5) (k := 0) C iCX10 rfl (by decide) rfl (by decide) (iW0 _ (List.mem_of_getElem? (i := 16) rfl)) rfl (dk dX10_pairs_0 8 rfl) ?_
    refine cl1_k h (fun s1 hc h => ?_)
    refine k_cv (T := TX0) (N := 9) (ci := 0) (ob := 28) (As := [.ref (g.2.2 1)]) (st := []) C (qX0_lay l g hg rfl hc) (iW15 _ (List.mem_of_getElem? (i := 23) rfl)) (iW15 _ (List.mem_of_getElem? (i := 24) rfl)) (iW15 _ (List.mem_of_getElem? (i := 25) rfl)) (iW0 _ (List.mem_of_getElem? (i := 21) rfl)) (iW15 _ (List.mem_of_getElem? (i := 26) rfl)) rfl rfl hdX0_lay (by decide) rfl (by decide) rfl rfl rfl (Nat.le_of_ble_eq_true rfl) (dk dX10_pairs_0 9 rfl) ?_
    refine k_iload_n C (dk dX10_pairs_0 10 rfl) rfl 1 rfl ?_
    refine k_iconst (v := (-1 : Int32)) C (dk dX10_pairs_0 11 rfl) (by decide) ?_
    refine k_icmp_ne (tgt := 33) C (dk dX10_pairs_0 12 rfl) (by decide) h (fun h => ?_) (fun h => ?_)
    ·
      refine k_aload_n C (dk dX10_pairs_0 17 rfl) rfl 0 rfl ?_
      refine k_getR (q := 28) (D := RX10) (T := TX10) (N := 9) (ci := 5) (k := 4) C iCX10 rfl (by decide) rfl (by decide) (iW0 _ (List.mem_of_getElem? (i := 22) rfl)) rfl (dk dX10_pairs_0 18 rfl) ?_
      refine k_iload_n C (dk dX10_pairs_0 19 rfl) rfl 1 rfl ?_
      refine cl2_k h (fun x3 s2 hc h => ?_)
      refine k_cv (T := TX0) (N := 9) (ci := 0) (ob := 28) (As := [.int a1]) (st := []) C (qX0_pairAt l g hg hc) (iW16 _ (List.mem_of_getElem? (i := 26) rfl)) (iW16 _ (List.mem_of_getElem? (i := 27) rfl)) (iW16 _ (List.mem_of_getElem? (i := 28) rfl)) (iW0 _ (List.mem_of_getElem? (i := 21) rfl)) (iW16 _ (List.mem_of_getElem? (i := 29) rfl)) rfl rfl hdX0_pairAt (by decide) rfl (by decide) rfl rfl rfl (Nat.le_of_ble_eq_true rfl) (dk dX10_pairs_0 20 rfl) ?_
      exact k_iret E (dk dX10_pairs_0 21 rfl) h
    ·
      refine k_aload_n C (dk dX10_pairs_0 13 rfl) rfl 0 rfl ?_
      refine k_getR (q := 28) (D := RX10) (T := TX10) (N := 9) (ci := 5) (k := 4) C iCX10 rfl (by decide) rfl (by decide) (iW0 _ (List.mem_of_getElem? (i := 22) rfl)) rfl (dk dX10_pairs_0 14 rfl) ?_
      refine cl2_k h (fun x5 s4 hc h => ?_)
      refine k_cv (T := TX0) (N := 9) (ci := 0) (ob := 28) (As := []) (st := []) C (qX0_pairsInAll l g hg hc) (iW16 _ (List.mem_of_getElem? (i := 12) rfl)) (iW16 _ (List.mem_of_getElem? (i := 13) rfl)) (iW16 _ (List.mem_of_getElem? (i := 14) rfl)) (iW0 _ (List.mem_of_getElem? (i := 21) rfl)) (iW16 _ (List.mem_of_getElem? (i := 15) rfl)) rfl rfl hdX0_pairsInAll (by decide) rfl (by decide) rfl rfl rfl (Nat.le_of_ble_eq_true rfl) (dk dX10_pairs_0 15 rfl) ?_
      refine k_goto (tgt := 41) C (dk dX10_pairs_0 16 rfl) (by decide) ?_
      exact k_iret E (dk dX10_pairs_0 21 rfl) h
  ·
    refine k_iconst (v := (-1 : Int32)) C (dk dX10_pairs_0 3 rfl) (by decide) ?_
    exact k_iret E (dk dX10_pairs_0 4 rfl) h
set_option maxRecDepth 100000 in
set_option maxHeartbeats 4000000 in
theorem qX10_islands (l : Launch) (g : G) (hg : gOK g)   {s0 σe : St} {v : Int32} (h : mX10_islands s0 = some (v, σe)) : Mc l g yX10_islands cX10_islands 1 (some .int) { frames := 4, cells := 0, slots := 0, locals := 96 } [.ref (g.2.2 0)] s0 (some (.int v)) σe := by
  refine k_enter hg pnRX10 rfl (Nat.le_of_ble_eq_true rfl) ?_
  intro WK E
  have C := kX_y E
  unfold mX10_islands at h
  show WK 0 [(0, .ref (g.2.2 0))] [] s0
  refine k_aload_n C (dk dX10_islands_0 0 rfl) rfl 0 rfl ?_
  refine k_getR (q := 1) (D := RX10) (T := TX10) (N := 9) (ci := 5) (k := 0) C iCX10 rfl (by decide) rfl (by decide) (iW0 _ (List.mem_of_getElem? (i := 16) rfl)) rfl (dk dX10_islands_0 1 rfl) ?_
  refine cl2_k h (fun x2 s1 hc h => ?_)
  refine k_cv (T := TX3) (N := 10) (ci := 1) (ob := 1) (As := []) (st := []) C (qX3_openCells l g hg rfl hc) (iW14 _ (List.mem_of_getElem? (i := 10) rfl)) (iW14 _ (List.mem_of_getElem? (i := 11) rfl)) (iW14 _ (List.mem_of_getElem? (i := 12) rfl)) (iW0 _ (List.mem_of_getElem? (i := 15) rfl)) (iW14 _ (List.mem_of_getElem? (i := 13) rfl)) rfl rfl hdX3_openCells (by decide) rfl (by decide) rfl rfl rfl (Nat.le_of_ble_eq_true rfl) (dk dX10_islands_0 2 rfl) ?_
  refine cl2_k h (fun x4 s3 hc h => ?_)
  refine k_cs (As := [.long x2]) (st := []) C (qX7_islandsOf l g hg hc) (iW17 _ (List.mem_of_getElem? (i := 20) rfl)) (iW17 _ (List.mem_of_getElem? (i := 21) rfl)) (iW7 _ (List.mem_of_getElem? (i := 4) rfl)) (iW17 _ (List.mem_of_getElem? (i := 22) rfl)) rfl rfl hdX7_islandsOf (by decide) rfl rfl (Nat.le_of_ble_eq_true rfl) (dk dX10_islands_0 3 rfl) ?_
  exact k_iret E (dk dX10_islands_0 4 rfl) h
set_option maxRecDepth 100000 in
set_option maxHeartbeats 4000000 in
theorem qX10_island (l : Launch) (g : G) (hg : gOK g) {a1 : Int32}  {s0 σe : St} {v : Int32} (h : mX10_island a1 s0 = some (v, σe)) : Mc l g yX10_island cX10_island 4 (some .int) { frames := 3, cells := 0, slots := 0, locals := 71 } [.ref (g.2.2 0), .int a1] s0 (some (.int v)) σe := by
  refine k_enter hg pnRX10 rfl (Nat.le_of_ble_eq_true rfl) ?_
  intro WK E
  have C := kX_y E
  unfold mX10_island at h
  show WK 0 [(0, .ref (g.2.2 0)), (1, .int a1)] [] s0
  refine k_iload_n C (dk dX10_island_0 0 rfl) rfl 1 rfl ?_
  refine k_i2l C (dk dX10_island_0 1 rfl) ?_
  refine cl2_k h (fun x2 s1 hc h => ?_)
  refine k_cs (As := [.long a1.toInt64]) (st := []) C (qX10_isCell l g hg hc) (iW10 _ (List.mem_of_getElem? (i := 29) rfl)) (iW5 _ (List.mem_of_getElem? (i := 20) rfl)) (iW0 _ (List.mem_of_getElem? (i := 2) rfl)) (iW5 _ (List.mem_of_getElem? (i := 21) rfl)) rfl rfl hdX10_isCell (by decide) rfl rfl (Nat.le_of_ble_eq_true rfl) (dk dX10_island_0 2 rfl) ?_
  refine k_if_ne (tgt := 10) C (dk dX10_island_0 3 rfl) (by decide) h (fun h => ?_) (fun h => ?_)
  ·
    refine k_aload_n C (dk dX10_island_0 6 rfl) rfl 0 rfl ?_
    refine k_getR (q := 1) (D := RX10) (T := TX10) (N := 9) (ci := 5) (k := 0) C iCX10 rfl (by decide) rfl (by decide) (iW0 _ (List.mem_of_getElem? (i := 16) rfl)) rfl (dk dX10_island_0 7 rfl) ?_
    refine cl2_k h (fun x4 s3 hc h => ?_)
    refine k_cv (T := TX3) (N := 10) (ci := 1) (ob := 1) (As := []) (st := []) C (qX3_openCells l g hg rfl hc) (iW14 _ (List.mem_of_getElem? (i := 10) rfl)) (iW14 _ (List.mem_of_getElem? (i := 11) rfl)) (iW14 _ (List.mem_of_getElem? (i := 12) rfl)) (iW0 _ (List.mem_of_getElem? (i := 15) rfl)) (iW14 _ (List.mem_of_getElem? (i := 13) rfl)) rfl rfl hdX3_openCells (by decide) rfl (by decide) rfl rfl rfl (Nat.le_of_ble_eq_true rfl) (dk dX10_island_0 8 rfl) ?_
    refine k_lstore_n (lv' := [(2, .long x4), (0, .ref (g.2.2 0)), (1, .int a1)]) C (dk dX10_island_0 9 rfl) rfl (by decide) rfl ?_
    refine k_lload_n C (dk dX10_island_0 10 rfl) rfl 0 rfl ?_
    refine k_iload_n C (dk dX10_island_0 11 rfl) rfl 2 rfl ?_
    refine cl2_k h (fun x6 s5 hc h => ?_)
    refine k_cs (As := [.long x4, .int a1]) (st := []) C (qX7_has l g hg hc) (iW18 _ (List.mem_of_getElem? (i := 12) rfl)) (iW14 _ (List.mem_of_getElem? (i := 22) rfl)) (iW7 _ (List.mem_of_getElem? (i := 4) rfl)) (iW14 _ (List.mem_of_getElem? (i := 23) rfl)) rfl rfl hdX7_has (by decide) rfl rfl (Nat.le_of_ble_eq_true rfl) (dk dX10_island_0 12 rfl) ?_
    refine k_if_eq (tgt := 37) C (dk dX10_island_0 13 rfl) (by decide) h (fun h => ?_) (fun h => ?_)
    ·
      refine k_bipush (v := (-3 : Int32)) C (dk dX10_island_0 19 rfl) (by decide) ?_
      exact k_iret E (dk dX10_island_0 20 rfl) h
    ·
      refine k_iload_n C (dk dX10_island_0 14 rfl) rfl 2 rfl ?_
      refine k_lload_n C (dk dX10_island_0 15 rfl) rfl 0 rfl ?_
      refine cl2_k h (fun x8 s7 hc h => ?_)
      refine k_cs (As := [.int a1, .long x4]) (st := []) C (qX7_islandOf l g hg hc) (iW18 _ (List.mem_of_getElem? (i := 13) rfl)) (iW17 _ (List.mem_of_getElem? (i := 25) rfl)) (iW7 _ (List.mem_of_getElem? (i := 4) rfl)) (iW17 _ (List.mem_of_getElem? (i := 26) rfl)) rfl rfl hdX7_islandOf (by decide) rfl rfl (Nat.le_of_ble_eq_true rfl) (dk dX10_island_0 16 rfl) ?_
      refine cl2_k h (fun x10 s9 hc h => ?_)
      refine k_cs (As := [.long x8]) (st := []) C (qJ13_bitCount_95d88 l g hg hc) (iW18 _ (List.mem_of_getElem? (i := 14) rfl)) (iW16 _ (List.mem_of_getElem? (i := 20) rfl)) (iW16 _ (List.mem_of_getElem? (i := 21) rfl)) (iW16 _ (List.mem_of_getElem? (i := 22) rfl)) rfl rfl hdJ13_bitCount_95d88 (by decide) rfl rfl (Nat.le_of_ble_eq_true rfl) (dk dX10_island_0 17 rfl) ?_
      refine k_goto (tgt := 39) C (dk dX10_island_0 18 rfl) (by decide) ?_
      exact k_iret E (dk dX10_island_0 20 rfl) h
  ·
    refine k_iconst (v := (-1 : Int32)) C (dk dX10_island_0 4 rfl) (by decide) ?_
    exact k_iret E (dk dX10_island_0 5 rfl) h
set_option maxRecDepth 100000 in
set_option maxHeartbeats 4000000 in
theorem qX10_middle (l : Launch) (g : G) (hg : gOK g) {a1 : Int32}  {s0 σe : St} {v : Int32} (h : mX10_middle a1 s0 = some (v, σe)) : Mc l g yX10_middle cX10_middle 5 (some .int) { frames := 5, cells := 0, slots := 0, locals := 126 } [.ref (g.2.2 0), .int a1] s0 (some (.int v)) σe := by
  refine k_enter hg pnRX10 rfl (Nat.le_of_ble_eq_true rfl) ?_
  intro WK E
  have C := kX_y E
  unfold mX10_middle at h
  show WK 0 [(0, .ref (g.2.2 0)), (1, .int a1)] [] s0
  refine k_iload_n C (dk dX10_middle_0 0 rfl) rfl 1 rfl ?_
  refine cl2_k h (fun x2 s1 hc h => ?_)
  refine k_cs (As := [.int a1]) (st := []) C (qX10_isEither l g hg hc) (iW12 _ (List.mem_of_getElem? (i := 24) rfl)) (iW6 _ (List.mem_of_getElem? (i := 22) rfl)) (iW0 _ (List.mem_of_getElem? (i := 2) rfl)) (iW6 _ (List.mem_of_getElem? (i := 23) rfl)) rfl rfl hdX10_isEither (by decide) rfl rfl (Nat.le_of_ble_eq_true rfl) (dk dX10_middle_0 1 rfl) ?_
  refine k_if_ne (tgt := 9) C (dk dX10_middle_0 2 rfl) (by decide) h (fun h => ?_) (fun h => ?_)
  ·
    refine k_aload_n C (dk dX10_middle_0 5 rfl) rfl 0 rfl ?_
    refine k_getR (q := 1) (D := RX10) (T := TX10) (N := 9) (ci := 5) (k := 0) C iCX10 rfl (by decide) rfl (by decide) (iW0 _ (List.mem_of_getElem? (i := 16) rfl)) rfl (dk dX10_middle_0 6 rfl) ?_
    refine cl2_k h (fun x4 s3 hc h => ?_)
    refine k_cv (T := TX3) (N := 10) (ci := 1) (ob := 1) (As := []) (st := []) C (qX3_openCells l g hg rfl hc) (iW14 _ (List.mem_of_getElem? (i := 10) rfl)) (iW14 _ (List.mem_of_getElem? (i := 11) rfl)) (iW14 _ (List.mem_of_getElem? (i := 12) rfl)) (iW0 _ (List.mem_of_getElem? (i := 15) rfl)) (iW14 _ (List.mem_of_getElem? (i := 13) rfl)) rfl rfl hdX3_openCells (by decide) rfl (by decide) rfl rfl rfl (Nat.le_of_ble_eq_true rfl) (dk dX10_middle_0 7 rfl) ?_
    refine k_lstore_n (lv' := [(2, .long x4), (0, .ref (g.2.2 0)), (1, .int a1)]) C (dk dX10_middle_0 8 rfl) rfl (by decide) rfl ?_
    refine k_lload_n C (dk dX10_middle_0 9 rfl) rfl 0 rfl ?_
    refine cl2_k h (fun x6 s5 hc h => ?_)
    refine k_cs (As := [.long x4]) (st := []) C (qX7_middleOf l g hg hc) (iW18 _ (List.mem_of_getElem? (i := 26) rfl)) (iW18 _ (List.mem_of_getElem? (i := 27) rfl)) (iW7 _ (List.mem_of_getElem? (i := 4) rfl)) (iW18 _ (List.mem_of_getElem? (i := 28) rfl)) rfl rfl hdX7_middleOf (by decide) rfl rfl (Nat.le_of_ble_eq_true rfl) (dk dX10_middle_0 10 rfl) ?_
    refine k_istore (lv' := [(4, .int x6), (2, .long x4), (0, .ref (g.2.2 0)), (1, .int a1)]) C (dk dX10_middle_0 11 rfl) (by decide) rfl ?_
    refine k_iload_n C (dk dX10_middle_0 12 rfl) rfl 3 rfl ?_
    refine kl_J (P := (fun J34 => ∀ (s7 : St), J34 s7 = some (v, σe) → WK 34 [(4, .int x6)] [] s7)) h (fun s7 h => ?_) (fun J34 hJ34 h => ?_)
    ·
      unfold mX10_middle_34 at h
      refine k_iload C (dk dX10_middle_0 17 rfl) 0 rfl ?_
      refine k_goto (tgt := 45) C (dk dX10_middle_0 18 rfl) (by decide) ?_
      exact k_iret E (dk dX10_middle_0 22 rfl) h
    ·
      refine k_if_eq (tgt := 34) C (dk dX10_middle_0 13 rfl) (by decide) h (fun h => ?_) (fun h => ?_)
      ·
        refine k_sub C [0] rfl ?_
        exact hJ34 _ h
      ·
        refine k_iload C (dk dX10_middle_0 14 rfl) 0 rfl ?_
        refine k_bipush (v := (-4 : Int32)) C (dk dX10_middle_0 15 rfl) (by decide) ?_
        refine k_icmp_ne (tgt := 39) C (dk dX10_middle_0 16 rfl) (by decide) h (fun h => ?_) (fun h => ?_)
        ·
          refine k_iload C (dk dX10_middle_0 19 rfl) 0 rfl ?_
          refine k_lload_n C (dk dX10_middle_0 20 rfl) rfl 1 rfl ?_
          refine cl2_k h (fun x9 s8 hc h => ?_)
          refine k_cs (As := [.int x6, .long x4]) (st := []) C (qX7_greatestSteps l g hg hc) (iW19 _ (List.mem_of_getElem? (i := 6) rfl)) (iW19 _ (List.mem_of_getElem? (i := 4) rfl)) (iW7 _ (List.mem_of_getElem? (i := 4) rfl)) (iW19 _ (List.mem_of_getElem? (i := 5) rfl)) rfl rfl hdX7_greatestSteps (by decide) rfl rfl (Nat.le_of_ble_eq_true rfl) (dk dX10_middle_0 21 rfl) ?_
          exact k_iret E (dk dX10_middle_0 22 rfl) h
        ·
          refine k_sub C [0] rfl ?_
          exact hJ34 _ h
  ·
    refine k_iconst (v := (-1 : Int32)) C (dk dX10_middle_0 3 rfl) (by decide) ?_
    exact k_iret E (dk dX10_middle_0 4 rfl) h
set_option maxRecDepth 100000 in
set_option maxHeartbeats 4000000 in
theorem qX10_refusalToSee (l : Launch) (g : G) (hg : gOK g) {a1 : Int32} {a2 : Int32}  {s0 σe : St} {v : Int32} (h : mX10_refusalToSee a1 a2 s0 = some (v, σe)) : Mc l g yX10_refusalToSee cX10_refusalToSee 3 (some .int) { frames := 1, cells := 0, slots := 0, locals := 21 } [.ref (g.2.2 0), .int a1, .int a2] s0 (some (.int v)) σe := by
  refine k_enter hg pnRX10 rfl (Nat.le_of_ble_eq_true rfl) ?_
  intro WK E
  have C := kX_y E
  unfold mX10_refusalToSee at h
  show WK 0 [(0, .ref (g.2.2 0)), (1, .int a1), (2, .int a2)] [] s0
  refine k_iload_n C (dk dX10_refusalToSee_0 0 rfl) rfl 1 rfl ?_
  refine k_i2l C (dk dX10_refusalToSee_0 1 rfl) ?_
  refine cl2_k h (fun x2 s1 hc h => ?_)
  refine k_cs (As := [.long a1.toInt64]) (st := []) C (qX10_isCell l g hg hc) (iW10 _ (List.mem_of_getElem? (i := 29) rfl)) (iW5 _ (List.mem_of_getElem? (i := 20) rfl)) (iW0 _ (List.mem_of_getElem? (i := 2) rfl)) (iW5 _ (List.mem_of_getElem? (i := 21) rfl)) rfl rfl hdX10_isCell (by decide) rfl rfl (Nat.le_of_ble_eq_true rfl) (dk dX10_refusalToSee_0 2 rfl) ?_
  refine k_if_eq (tgt := 16) C (dk dX10_refusalToSee_0 3 rfl) (by decide) h (fun h => ?_) (fun h => ?_)
  ·
    refine k_iconst (v := (-1 : Int32)) C (dk dX10_refusalToSee_0 8 rfl) (by decide) ?_
    exact k_iret E (dk dX10_refusalToSee_0 9 rfl) h
  ·
    refine k_iload_n C (dk dX10_refusalToSee_0 4 rfl) rfl 2 rfl ?_
    refine k_i2l C (dk dX10_refusalToSee_0 5 rfl) ?_
    refine cl2_k h (fun x4 s3 hc h => ?_)
    refine k_cs (As := [.long a2.toInt64]) (st := []) C (qX10_isCell l g hg hc) (iW10 _ (List.mem_of_getElem? (i := 29) rfl)) (iW5 _ (List.mem_of_getElem? (i := 20) rfl)) (iW0 _ (List.mem_of_getElem? (i := 2) rfl)) (iW5 _ (List.mem_of_getElem? (i := 21) rfl)) rfl rfl hdX10_isCell (by decide) rfl rfl (Nat.le_of_ble_eq_true rfl) (dk dX10_refusalToSee_0 6 rfl) ?_
    refine k_if_ne (tgt := 18) C (dk dX10_refusalToSee_0 7 rfl) (by decide) h (fun h => ?_) (fun h => ?_)
    ·
      refine k_aload_n C (dk dX10_refusalToSee_0 10 rfl) rfl 0 rfl ?_
      refine k_getR (q := 1) (D := RX10) (T := TX10) (N := 9) (ci := 5) (k := 0) C iCX10 rfl (by decide) rfl (by decide) (iW0 _ (List.mem_of_getElem? (i := 16) rfl)) rfl (dk dX10_refusalToSee_0 11 rfl) ?_
      refine cl2_k h (fun x6 s5 hc h => ?_)
      refine k_cv (T := TX3) (N := 10) (ci := 1) (ob := 1) (As := []) (st := []) C (qX3_bothStand l g hg rfl hc) (iW19 _ (List.mem_of_getElem? (i := 19) rfl)) (iW19 _ (List.mem_of_getElem? (i := 20) rfl)) (iW19 _ (List.mem_of_getElem? (i := 21) rfl)) (iW0 _ (List.mem_of_getElem? (i := 15) rfl)) (iW19 _ (List.mem_of_getElem? (i := 22) rfl)) rfl rfl hdX3_bothStand (by decide) rfl (by decide) rfl rfl rfl (Nat.le_of_ble_eq_true rfl) (dk dX10_refusalToSee_0 12 rfl) ?_
      refine k_if_eq (tgt := 32) C (dk dX10_refusalToSee_0 13 rfl) (by decide) h (fun h => ?_) (fun h => ?_)
      ·
        refine k_bipush (v := (-3 : Int32)) C (dk dX10_refusalToSee_0 16 rfl) (by decide) ?_
        exact k_iret E (dk dX10_refusalToSee_0 17 rfl) h
      ·
        refine k_iconst (v := (0 : Int32)) C (dk dX10_refusalToSee_0 14 rfl) (by decide) ?_
        refine k_goto (tgt := 34) C (dk dX10_refusalToSee_0 15 rfl) (by decide) ?_
        exact k_iret E (dk dX10_refusalToSee_0 17 rfl) h
    ·
      refine k_iconst (v := (-1 : Int32)) C (dk dX10_refusalToSee_0 8 rfl) (by decide) ?_
      exact k_iret E (dk dX10_refusalToSee_0 9 rfl) h
set_option maxRecDepth 100000 in
set_option maxHeartbeats 4000000 in
theorem qX10_see (l : Launch) (g : G) (hg : gOK g) {a1 : Int32} {a2 : Int32}  {s0 σe : St} {v : Int32} (h : mX10_see a1 a2 s0 = some (v, σe)) : Mc l g yX10_see cX10_see 4 (some .int) { frames := 5, cells := 0, slots := 0, locals := 115 } [.ref (g.2.2 0), .int a1, .int a2] s0 (some (.int v)) σe := by
  refine k_enter hg pnRX10 rfl (Nat.le_of_ble_eq_true rfl) ?_
  intro WK E
  have C := kX_y E
  unfold mX10_see at h
  show WK 0 [(0, .ref (g.2.2 0)), (1, .int a1), (2, .int a2)] [] s0
  refine k_aload_n C (dk dX10_see_0 0 rfl) rfl 0 rfl ?_
  refine k_iload_n C (dk dX10_see_0 1 rfl) rfl 1 rfl ?_
  refine k_iload_n C (dk dX10_see_0 2 rfl) rfl 2 rfl ?_
  refine cl2_k h (fun x2 s1 hc h => ?_)
  refine k_cv (T := TX10) (N := 9) (ci := 5) (ob := 0) (As := [.int a1, .int a2]) (st := []) C (qX10_refusalToSee l g hg hc) (iW19 _ (List.mem_of_getElem? (i := 15) rfl)) (iW19 _ (List.mem_of_getElem? (i := 16) rfl)) (iW19 _ (List.mem_of_getElem? (i := 17) rfl)) (iW0 _ (List.mem_of_getElem? (i := 2) rfl)) (iW19 _ (List.mem_of_getElem? (i := 18) rfl)) rfl rfl hdX10_refusalToSee (by decide) rfl (by decide) rfl rfl rfl (Nat.le_of_ble_eq_true rfl) (dk dX10_see_0 3 rfl) ?_
  refine k_istore_n (lv' := [(3, .int x2), (0, .ref (g.2.2 0)), (1, .int a1), (2, .int a2)]) C (dk dX10_see_0 4 rfl) rfl (by decide) rfl ?_
  refine k_iload_n C (dk dX10_see_0 5 rfl) rfl 0 rfl ?_
  refine k_if_eq (tgt := 13) C (dk dX10_see_0 6 rfl) (by decide) h (fun h => ?_) (fun h => ?_)
  ·
    refine k_aload_n C (dk dX10_see_0 9 rfl) rfl 1 rfl ?_
    refine k_getR (q := 28) (D := RX10) (T := TX10) (N := 9) (ci := 5) (k := 4) C iCX10 rfl (by decide) rfl (by decide) (iW0 _ (List.mem_of_getElem? (i := 22) rfl)) rfl (dk dX10_see_0 10 rfl) ?_
    refine k_aload_n C (dk dX10_see_0 11 rfl) rfl 1 rfl ?_
    refine k_getR (q := 1) (D := RX10) (T := TX10) (N := 9) (ci := 5) (k := 0) C iCX10 rfl (by decide) rfl (by decide) (iW0 _ (List.mem_of_getElem? (i := 16) rfl)) rfl (dk dX10_see_0 12 rfl) ?_
    refine cl1_k h (fun s3 hc h => ?_)
    refine k_cv (T := TX0) (N := 9) (ci := 0) (ob := 28) (As := [.ref (g.2.2 1)]) (st := []) C (qX0_lay l g hg rfl hc) (iW15 _ (List.mem_of_getElem? (i := 23) rfl)) (iW15 _ (List.mem_of_getElem? (i := 24) rfl)) (iW15 _ (List.mem_of_getElem? (i := 25) rfl)) (iW0 _ (List.mem_of_getElem? (i := 21) rfl)) (iW15 _ (List.mem_of_getElem? (i := 26) rfl)) rfl rfl hdX0_lay (by decide) rfl (by decide) rfl rfl rfl (Nat.le_of_ble_eq_true rfl) (dk dX10_see_0 13 rfl) ?_
    refine k_aload_n C (dk dX10_see_0 14 rfl) rfl 1 rfl ?_
    refine k_getR (q := 28) (D := RX10) (T := TX10) (N := 9) (ci := 5) (k := 4) C iCX10 rfl (by decide) rfl (by decide) (iW0 _ (List.mem_of_getElem? (i := 22) rfl)) rfl (dk dX10_see_0 15 rfl) ?_
    refine k_aload_n C (dk dX10_see_0 16 rfl) rfl 1 rfl ?_
    refine k_getR (q := 1) (D := RX10) (T := TX10) (N := 9) (ci := 5) (k := 0) C iCX10 rfl (by decide) rfl (by decide) (iW0 _ (List.mem_of_getElem? (i := 16) rfl)) rfl (dk dX10_see_0 17 rfl) ?_
    refine k_getI (D := RX3) (T := TX3) (N := 10) (ci := 1) (k := 5) C iCX3 rfl (by decide) rfl (by decide) (iW12 _ (List.mem_of_getElem? (i := 22) rfl)) rfl (dk dX10_see_0 18 rfl) h (fun x4 h => ?_)
    refine k_aload_n C (dk dX10_see_0 19 rfl) rfl 1 rfl ?_
    refine k_getR (q := 1) (D := RX10) (T := TX10) (N := 9) (ci := 5) (k := 0) C iCX10 rfl (by decide) rfl (by decide) (iW0 _ (List.mem_of_getElem? (i := 16) rfl)) rfl (dk dX10_see_0 20 rfl) ?_
    refine k_getI (D := RX3) (T := TX3) (N := 10) (ci := 1) (k := 6) C iCX3 rfl (by decide) rfl (by decide) (iW12 _ (List.mem_of_getElem? (i := 23) rfl)) rfl (dk dX10_see_0 21 rfl) h (fun x5 h => ?_)
    refine k_iload_n C (dk dX10_see_0 22 rfl) rfl 2 rfl ?_
    refine k_iload_n C (dk dX10_see_0 23 rfl) rfl 3 rfl ?_
    refine cl2_k h (fun x7 s6 hc h => ?_)
    refine k_cv (T := TX0) (N := 9) (ci := 0) (ob := 28) (As := [.int x4, .int x5, .int a1, .int a2]) (st := []) C (qX0_daysBetween l g hg hc) (iW19 _ (List.mem_of_getElem? (i := 23) rfl)) (iW19 _ (List.mem_of_getElem? (i := 24) rfl)) (iW19 _ (List.mem_of_getElem? (i := 25) rfl)) (iW0 _ (List.mem_of_getElem? (i := 21) rfl)) (iW19 _ (List.mem_of_getElem? (i := 26) rfl)) rfl rfl hdX0_daysBetween (by decide) rfl (by decide) rfl rfl rfl (Nat.le_of_ble_eq_true rfl) (dk dX10_see_0 24 rfl) ?_
    exact k_iret E (dk dX10_see_0 25 rfl) h
  ·
    refine k_iload_n C (dk dX10_see_0 7 rfl) rfl 0 rfl ?_
    exact k_iret E (dk dX10_see_0 8 rfl) h
set_option maxRecDepth 100000 in
set_option maxHeartbeats 4000000 in
theorem qX10_way (l : Launch) (g : G) (hg : gOK g) {a1 : Int32} {a2 : Int32} {a3 : Int32}  {s0 σe : St} {v : Int32} (h : mX10_way a1 a2 a3 s0 = some (v, σe)) : Mc l g yX10_way cX10_way 6 (some .int) { frames := 5, cells := 0, slots := 0, locals := 115 } [.ref (g.2.2 0), .int a1, .int a2, .int a3] s0 (some (.int v)) σe := by
  refine k_enter hg pnRX10 rfl (Nat.le_of_ble_eq_true rfl) ?_
  intro WK E
  have C := kX_y E
  unfold mX10_way at h
  show WK 0 [(0, .ref (g.2.2 0)), (1, .int a1), (2, .int a2), (3, .int a3)] [] s0
  refine k_iload_n C (dk dX10_way_0 0 rfl) rfl 3 rfl ?_
  refine kl_J (P := (fun J14 => ∀ (y1 : Int32) (s2 : St), J14 y1 s2 = some (v, σe) → WK 14 [(0, .ref (g.2.2 0)), (1, .int a1), (2, .int a2), (3, .int a3)] [.int y1] s2)) h (fun y1 s2 h => ?_) (fun J14 hJ14 h => ?_)
  ·
    unfold mX10_way_14 at h
    refine k_istore (lv' := [(4, .int y1), (0, .ref (g.2.2 0)), (1, .int a1), (2, .int a2), (3, .int a3)]) C (dk dX10_way_0 8 rfl) (by decide) rfl ?_
    refine k_iload C (dk dX10_way_0 9 rfl) 0 rfl ?_
    refine k_if_eq (tgt := 24) C (dk dX10_way_0 10 rfl) (by decide) h (fun h => ?_) (fun h => ?_)
    ·
      refine k_aload_n C (dk dX10_way_0 13 rfl) rfl 1 rfl ?_
      refine k_getR (q := 28) (D := RX10) (T := TX10) (N := 9) (ci := 5) (k := 4) C iCX10 rfl (by decide) rfl (by decide) (iW0 _ (List.mem_of_getElem? (i := 22) rfl)) rfl (dk dX10_way_0 14 rfl) ?_
      refine k_aload_n C (dk dX10_way_0 15 rfl) rfl 1 rfl ?_
      refine k_getR (q := 1) (D := RX10) (T := TX10) (N := 9) (ci := 5) (k := 0) C iCX10 rfl (by decide) rfl (by decide) (iW0 _ (List.mem_of_getElem? (i := 16) rfl)) rfl (dk dX10_way_0 16 rfl) ?_
      refine cl1_k h (fun s3 hc h => ?_)
      refine k_cv (T := TX0) (N := 9) (ci := 0) (ob := 28) (As := [.ref (g.2.2 1)]) (st := []) C (qX0_lay l g hg rfl hc) (iW15 _ (List.mem_of_getElem? (i := 23) rfl)) (iW15 _ (List.mem_of_getElem? (i := 24) rfl)) (iW15 _ (List.mem_of_getElem? (i := 25) rfl)) (iW0 _ (List.mem_of_getElem? (i := 21) rfl)) (iW15 _ (List.mem_of_getElem? (i := 26) rfl)) rfl rfl hdX0_lay (by decide) rfl (by decide) rfl rfl rfl (Nat.le_of_ble_eq_true rfl) (dk dX10_way_0 17 rfl) ?_
      refine k_aload_n C (dk dX10_way_0 18 rfl) rfl 1 rfl ?_
      refine k_getR (q := 28) (D := RX10) (T := TX10) (N := 9) (ci := 5) (k := 4) C iCX10 rfl (by decide) rfl (by decide) (iW0 _ (List.mem_of_getElem? (i := 22) rfl)) rfl (dk dX10_way_0 19 rfl) ?_
      refine k_aload_n C (dk dX10_way_0 20 rfl) rfl 1 rfl ?_
      refine k_getR (q := 1) (D := RX10) (T := TX10) (N := 9) (ci := 5) (k := 0) C iCX10 rfl (by decide) rfl (by decide) (iW0 _ (List.mem_of_getElem? (i := 16) rfl)) rfl (dk dX10_way_0 21 rfl) ?_
      refine k_getI (D := RX3) (T := TX3) (N := 10) (ci := 1) (k := 5) C iCX3 rfl (by decide) rfl (by decide) (iW12 _ (List.mem_of_getElem? (i := 22) rfl)) rfl (dk dX10_way_0 22 rfl) h (fun x4 h => ?_)
      refine k_aload_n C (dk dX10_way_0 23 rfl) rfl 1 rfl ?_
      refine k_getR (q := 1) (D := RX10) (T := TX10) (N := 9) (ci := 5) (k := 0) C iCX10 rfl (by decide) rfl (by decide) (iW0 _ (List.mem_of_getElem? (i := 16) rfl)) rfl (dk dX10_way_0 24 rfl) ?_
      refine k_getI (D := RX3) (T := TX3) (N := 10) (ci := 1) (k := 6) C iCX3 rfl (by decide) rfl (by decide) (iW12 _ (List.mem_of_getElem? (i := 23) rfl)) rfl (dk dX10_way_0 25 rfl) h (fun x5 h => ?_)
      refine k_iload_n C (dk dX10_way_0 26 rfl) rfl 2 rfl ?_
      refine k_iload_n C (dk dX10_way_0 27 rfl) rfl 3 rfl ?_
      refine cl2_k h (fun x7 s6 hc h => ?_)
      refine k_cv (T := TX0) (N := 9) (ci := 0) (ob := 28) (As := [.int x4, .int x5, .int a1, .int a2]) (st := []) C (qX0_daysBetween l g hg hc) (iW19 _ (List.mem_of_getElem? (i := 23) rfl)) (iW19 _ (List.mem_of_getElem? (i := 24) rfl)) (iW19 _ (List.mem_of_getElem? (i := 25) rfl)) (iW0 _ (List.mem_of_getElem? (i := 21) rfl)) (iW19 _ (List.mem_of_getElem? (i := 26) rfl)) rfl rfl hdX0_daysBetween (by decide) rfl (by decide) rfl rfl rfl (Nat.le_of_ble_eq_true rfl) (dk dX10_way_0 28 rfl) ?_
      refine k_istore (lv' := [(5, .int x7), (4, .int y1), (0, .ref (g.2.2 0)), (1, .int a1), (2, .int a2), (3, .int a3)]) C (dk dX10_way_0 29 rfl) (by decide) rfl ?_
      refine k_iload C (dk dX10_way_0 30 rfl) 0 rfl ?_
      refine k_bipush (v := (-4 : Int32)) C (dk dX10_way_0 31 rfl) (by decide) ?_
      refine kl_J (P := (fun J73 => ∀ (s8 : St), J73 s8 = some (v, σe) → WK 73 [] [] s8)) h (fun s8 h => ?_) (fun J73 hJ73 h => ?_)
      ·
        unfold mX10_way_73 at h
        refine k_bipush (v := (-4 : Int32)) C (dk dX10_way_1 4 rfl) (by decide) ?_
        refine k_goto (tgt := 100) C (dk dX10_way_1 5 rfl) (by decide) ?_
        exact k_iret E (dk dX10_way_1 16 rfl) h
      ·
        refine k_icmp_eq (tgt := 73) C (dk dX10_way_1 0 rfl) (by decide) h (fun h => ?_) (fun h => ?_)
        ·
          refine k_sub C [] rfl ?_
          exact hJ73 _ h
        ·
          refine k_iload_n C (dk dX10_way_1 1 rfl) rfl 5 rfl ?_
          refine k_iload C (dk dX10_way_1 2 rfl) 0 rfl ?_
          refine k_icmp_le (tgt := 78) C (dk dX10_way_1 3 rfl) (by decide) h (fun h => ?_) (fun h => ?_)
          ·
            refine k_aload_n C (dk dX10_way_1 6 rfl) rfl 2 rfl ?_
            refine k_getR (q := 28) (D := RX10) (T := TX10) (N := 9) (ci := 5) (k := 4) C iCX10 rfl (by decide) rfl (by decide) (iW0 _ (List.mem_of_getElem? (i := 22) rfl)) rfl (dk dX10_way_1 7 rfl) ?_
            refine k_aload_n C (dk dX10_way_1 8 rfl) rfl 2 rfl ?_
            refine k_getR (q := 1) (D := RX10) (T := TX10) (N := 9) (ci := 5) (k := 0) C iCX10 rfl (by decide) rfl (by decide) (iW0 _ (List.mem_of_getElem? (i := 16) rfl)) rfl (dk dX10_way_1 9 rfl) ?_
            refine k_getI (D := RX3) (T := TX3) (N := 10) (ci := 1) (k := 5) C iCX3 rfl (by decide) rfl (by decide) (iW12 _ (List.mem_of_getElem? (i := 22) rfl)) rfl (dk dX10_way_1 10 rfl) h (fun x9 h => ?_)
            refine k_aload_n C (dk dX10_way_1 11 rfl) rfl 2 rfl ?_
            refine k_getR (q := 1) (D := RX10) (T := TX10) (N := 9) (ci := 5) (k := 0) C iCX10 rfl (by decide) rfl (by decide) (iW0 _ (List.mem_of_getElem? (i := 16) rfl)) rfl (dk dX10_way_1 12 rfl) ?_
            refine k_getI (D := RX3) (T := TX3) (N := 10) (ci := 1) (k := 6) C iCX3 rfl (by decide) rfl (by decide) (iW12 _ (List.mem_of_getElem? (i := 23) rfl)) rfl (dk dX10_way_1 13 rfl) h (fun x10 h => ?_)
            refine k_iload_n C (dk dX10_way_1 14 rfl) rfl 5 rfl ?_
            refine cl2_k h (fun x12 s11 hc h => ?_)
            refine k_cv (T := TX0) (N := 9) (ci := 0) (ob := 28) (As := [.int x9, .int x10, .int a3]) (st := []) C (qX0_pairOnWay l g hg hc) (iW21 _ (List.mem_of_getElem? (i := 22) rfl)) (iW21 _ (List.mem_of_getElem? (i := 23) rfl)) (iW21 _ (List.mem_of_getElem? (i := 24) rfl)) (iW0 _ (List.mem_of_getElem? (i := 21) rfl)) (iW21 _ (List.mem_of_getElem? (i := 25) rfl)) rfl rfl hdX0_pairOnWay (by decide) rfl (by decide) rfl rfl rfl (Nat.le_of_ble_eq_true rfl) (dk dX10_way_1 15 rfl) ?_
            exact k_iret E (dk dX10_way_1 16 rfl) h
          ·
            refine k_sub C [] rfl ?_
            exact hJ73 _ h
    ·
      refine k_iload C (dk dX10_way_0 11 rfl) 0 rfl ?_
      exact k_iret E (dk dX10_way_0 12 rfl) h
  ·
    refine k_if_ge (tgt := 8) C (dk dX10_way_0 1 rfl) (by decide) h (fun h => ?_) (fun h => ?_)
    ·
      refine k_aload_n C (dk dX10_way_0 4 rfl) rfl 0 rfl ?_
      refine k_iload_n C (dk dX10_way_0 5 rfl) rfl 1 rfl ?_
      refine k_iload_n C (dk dX10_way_0 6 rfl) rfl 2 rfl ?_
      refine cl2_k h (fun x14 s13 hc h => ?_)
      refine k_cv (T := TX10) (N := 9) (ci := 5) (ob := 0) (As := [.int a1, .int a2]) (st := []) C (qX10_refusalToSee l g hg hc) (iW19 _ (List.mem_of_getElem? (i := 15) rfl)) (iW19 _ (List.mem_of_getElem? (i := 16) rfl)) (iW19 _ (List.mem_of_getElem? (i := 17) rfl)) (iW0 _ (List.mem_of_getElem? (i := 2) rfl)) (iW19 _ (List.mem_of_getElem? (i := 18) rfl)) rfl rfl hdX10_refusalToSee (by decide) rfl (by decide) rfl rfl rfl (Nat.le_of_ble_eq_true rfl) (dk dX10_way_0 7 rfl) ?_
      exact hJ14 _ _ h
    ·
      refine k_iconst (v := (-1 : Int32)) C (dk dX10_way_0 2 rfl) (by decide) ?_
      refine k_goto (tgt := 14) C (dk dX10_way_0 3 rfl) (by decide) ?_
      exact hJ14 _ _ h
set_option maxRecDepth 100000 in
set_option maxHeartbeats 4000000 in
theorem qX10_hinders (l : Launch) (g : G) (hg : gOK g) {a1 : Int32} {a2 : Int32}  {s0 σe : St} {v : Int32} (h : mX10_hinders a1 a2 s0 = some (v, σe)) : Mc l g yX10_hinders cX10_hinders 10 (some .int) { frames := 5, cells := 0, slots := 0, locals := 115 } [.ref (g.2.2 0), .int a1, .int a2] s0 (some (.int v)) σe := by
  refine k_enter hg pnRX10 rfl (Nat.le_of_ble_eq_true rfl) ?_
  intro WK E
  have C := kX_y E
  unfold mX10_hinders at h
  show WK 0 [(0, .ref (g.2.2 0)), (1, .int a1), (2, .int a2)] [] s0
  refine k_aload_n C (dk dX10_hinders_0 0 rfl) rfl 0 rfl ?_
  refine k_iload_n C (dk dX10_hinders_0 1 rfl) rfl 1 rfl ?_
  refine k_iload_n C (dk dX10_hinders_0 2 rfl) rfl 2 rfl ?_
  refine cl2_k h (fun x2 s1 hc h => ?_)
  refine k_cv (T := TX10) (N := 9) (ci := 5) (ob := 0) (As := [.int a1, .int a2]) (st := []) C (qX10_refusalToSee l g hg hc) (iW19 _ (List.mem_of_getElem? (i := 15) rfl)) (iW19 _ (List.mem_of_getElem? (i := 16) rfl)) (iW19 _ (List.mem_of_getElem? (i := 17) rfl)) (iW0 _ (List.mem_of_getElem? (i := 2) rfl)) (iW19 _ (List.mem_of_getElem? (i := 18) rfl)) rfl rfl hdX10_refusalToSee (by decide) rfl (by decide) rfl rfl rfl (Nat.le_of_ble_eq_true rfl) (dk dX10_hinders_0 3 rfl) ?_
  refine k_istore_n (lv' := [(3, .int x2), (0, .ref (g.2.2 0)), (1, .int a1), (2, .int a2)]) C (dk dX10_hinders_0 4 rfl) rfl (by decide) rfl ?_
  refine k_iload_n C (dk dX10_hinders_0 5 rfl) rfl 0 rfl ?_
  refine k_if_eq (tgt := 13) C (dk dX10_hinders_0 6 rfl) (by decide) h (fun h => ?_) (fun h => ?_)
  ·
    refine k_aload_n C (dk dX10_hinders_0 9 rfl) rfl 1 rfl ?_
    refine k_getR (q := 28) (D := RX10) (T := TX10) (N := 9) (ci := 5) (k := 4) C iCX10 rfl (by decide) rfl (by decide) (iW0 _ (List.mem_of_getElem? (i := 22) rfl)) rfl (dk dX10_hinders_0 10 rfl) ?_
    refine k_aload_n C (dk dX10_hinders_0 11 rfl) rfl 1 rfl ?_
    refine k_getR (q := 1) (D := RX10) (T := TX10) (N := 9) (ci := 5) (k := 0) C iCX10 rfl (by decide) rfl (by decide) (iW0 _ (List.mem_of_getElem? (i := 16) rfl)) rfl (dk dX10_hinders_0 12 rfl) ?_
    refine cl1_k h (fun s3 hc h => ?_)
    refine k_cv (T := TX0) (N := 9) (ci := 0) (ob := 28) (As := [.ref (g.2.2 1)]) (st := []) C (qX0_lay l g hg rfl hc) (iW15 _ (List.mem_of_getElem? (i := 23) rfl)) (iW15 _ (List.mem_of_getElem? (i := 24) rfl)) (iW15 _ (List.mem_of_getElem? (i := 25) rfl)) (iW0 _ (List.mem_of_getElem? (i := 21) rfl)) (iW15 _ (List.mem_of_getElem? (i := 26) rfl)) rfl rfl hdX0_lay (by decide) rfl (by decide) rfl rfl rfl (Nat.le_of_ble_eq_true rfl) (dk dX10_hinders_0 13 rfl) ?_
    refine k_aload_n C (dk dX10_hinders_0 14 rfl) rfl 1 rfl ?_
    refine k_getR (q := 28) (D := RX10) (T := TX10) (N := 9) (ci := 5) (k := 4) C iCX10 rfl (by decide) rfl (by decide) (iW0 _ (List.mem_of_getElem? (i := 22) rfl)) rfl (dk dX10_hinders_0 15 rfl) ?_
    refine k_aload_n C (dk dX10_hinders_0 16 rfl) rfl 1 rfl ?_
    refine k_getR (q := 1) (D := RX10) (T := TX10) (N := 9) (ci := 5) (k := 0) C iCX10 rfl (by decide) rfl (by decide) (iW0 _ (List.mem_of_getElem? (i := 16) rfl)) rfl (dk dX10_hinders_0 17 rfl) ?_
    refine k_getI (D := RX3) (T := TX3) (N := 10) (ci := 1) (k := 5) C iCX3 rfl (by decide) rfl (by decide) (iW12 _ (List.mem_of_getElem? (i := 22) rfl)) rfl (dk dX10_hinders_0 18 rfl) h (fun x4 h => ?_)
    refine k_aload_n C (dk dX10_hinders_0 19 rfl) rfl 1 rfl ?_
    refine k_getR (q := 1) (D := RX10) (T := TX10) (N := 9) (ci := 5) (k := 0) C iCX10 rfl (by decide) rfl (by decide) (iW0 _ (List.mem_of_getElem? (i := 16) rfl)) rfl (dk dX10_hinders_0 20 rfl) ?_
    refine k_getI (D := RX3) (T := TX3) (N := 10) (ci := 1) (k := 6) C iCX3 rfl (by decide) rfl (by decide) (iW12 _ (List.mem_of_getElem? (i := 23) rfl)) rfl (dk dX10_hinders_0 21 rfl) h (fun x5 h => ?_)
    refine k_iload_n C (dk dX10_hinders_0 22 rfl) rfl 2 rfl ?_
    refine k_iload_n C (dk dX10_hinders_0 23 rfl) rfl 3 rfl ?_
    refine cl2_k h (fun x7 s6 hc h => ?_)
    refine k_cv (T := TX0) (N := 9) (ci := 0) (ob := 28) (As := [.int x4, .int x5, .int a1, .int a2]) (st := []) C (qX0_daysBetween l g hg hc) (iW19 _ (List.mem_of_getElem? (i := 23) rfl)) (iW19 _ (List.mem_of_getElem? (i := 24) rfl)) (iW19 _ (List.mem_of_getElem? (i := 25) rfl)) (iW0 _ (List.mem_of_getElem? (i := 21) rfl)) (iW19 _ (List.mem_of_getElem? (i := 26) rfl)) rfl rfl hdX0_daysBetween (by decide) rfl (by decide) rfl rfl rfl (Nat.le_of_ble_eq_true rfl) (dk dX10_hinders_0 24 rfl) ?_
    refine k_bipush (v := (-4 : Int32)) C (dk dX10_hinders_0 25 rfl) (by decide) ?_
    refine k_icmp_eq (tgt := 55) C (dk dX10_hinders_0 26 rfl) (by decide) h (fun h => ?_) (fun h => ?_)
    ·
      refine k_aload_n C (dk dX10_hinders_0 29 rfl) rfl 1 rfl ?_
      refine k_getR (q := 1) (D := RX10) (T := TX10) (N := 9) (ci := 5) (k := 0) C iCX10 rfl (by decide) rfl (by decide) (iW0 _ (List.mem_of_getElem? (i := 16) rfl)) rfl (dk dX10_hinders_0 30 rfl) ?_
      refine cl2_k h (fun x9 s8 hc h => ?_)
      refine k_cv (T := TX3) (N := 10) (ci := 1) (ob := 1) (As := []) (st := []) C (qX3_openCells l g hg rfl hc) (iW14 _ (List.mem_of_getElem? (i := 10) rfl)) (iW14 _ (List.mem_of_getElem? (i := 11) rfl)) (iW14 _ (List.mem_of_getElem? (i := 12) rfl)) (iW0 _ (List.mem_of_getElem? (i := 15) rfl)) (iW14 _ (List.mem_of_getElem? (i := 13) rfl)) rfl rfl hdX3_openCells (by decide) rfl (by decide) rfl rfl rfl (Nat.le_of_ble_eq_true rfl) (dk dX10_hinders_0 31 rfl) ?_
      refine k_lstore (lv' := [(4, .long x9), (3, .int x2), (0, .ref (g.2.2 0)), (1, .int a1), (2, .int a2)]) C (dk dX10_hinders_1 0 rfl) (by decide) rfl ?_
      refine k_bipush (v := (-4 : Int32)) C (dk dX10_hinders_1 1 rfl) (by decide) ?_
      refine k_istore (lv' := [(6, .int (-4 : Int32)), (4, .long x9), (3, .int x2), (0, .ref (g.2.2 0)), (1, .int a1), (2, .int a2)]) C (dk dX10_hinders_1 2 rfl) (by decide) rfl ?_
      refine k_sipush (v := (1296 : Int32)) C (dk dX10_hinders_1 3 rfl) (by decide) ?_
      refine k_istore (lv' := [(7, .int (1296 : Int32)), (6, .int (-4 : Int32)), (4, .long x9), (3, .int x2), (0, .ref (g.2.2 0)), (1, .int a1), (2, .int a2)]) C (dk dX10_hinders_1 4 rfl) (by decide) rfl ?_
      refine k_iconst (v := (0 : Int32)) C (dk dX10_hinders_1 5 rfl) (by decide) ?_
      refine k_istore (lv' := [(8, .int (0 : Int32)), (7, .int (1296 : Int32)), (6, .int (-4 : Int32)), (4, .long x9), (3, .int x2), (0, .ref (g.2.2 0)), (1, .int a1), (2, .int a2)]) C (dk dX10_hinders_1 6 rfl) (by decide) rfl ?_
      refine kl_L (P := (fun J76 => ∀ (y10 : Int32) (y11 : Int32) (y12 : Int32) (s13 : St), J76 y10 y11 y12 s13 = some (v, σe) → WK 76 [(0, .ref (g.2.2 0)), (1, .int a1), (2, .int a2), (4, .long x9), (6, .int y10), (7, .int y11), (8, .int y12)] [] s13)) h (fun _ _ _ _ h => nomatch h) (fun J76 hJ76 y10 y11 y12 s13 h => ?_) (fun J76 hJ76 h => ?_)
      ·
        unfold mX10_hinders_76 at h
        refine k_iload C (dk dX10_hinders_1 7 rfl) 6 rfl ?_
        refine k_bipush (v := (36 : Int32)) C (dk dX10_hinders_1 8 rfl) (by decide) ?_
        refine k_icmp_ge (tgt := 161) C (dk dX10_hinders_1 9 rfl) (by decide) h (fun h => ?_) (fun h => ?_)
        ·
          refine k_iload C (dk dX10_hinders_2 13 rfl) 4 rfl ?_
          exact k_iret E (dk dX10_hinders_2 14 rfl) h
        ·
          refine k_lload C (dk dX10_hinders_1 10 rfl) 3 rfl ?_
          refine k_iload C (dk dX10_hinders_1 11 rfl) 6 rfl ?_
          refine cl2_k h (fun x15 s14 hc h => ?_)
          refine k_cs (As := [.long x9, .int y12]) (st := []) C (qX7_has l g hg hc) (iW18 _ (List.mem_of_getElem? (i := 12) rfl)) (iW14 _ (List.mem_of_getElem? (i := 22) rfl)) (iW7 _ (List.mem_of_getElem? (i := 4) rfl)) (iW14 _ (List.mem_of_getElem? (i := 23) rfl)) rfl rfl hdX7_has (by decide) rfl rfl (Nat.le_of_ble_eq_true rfl) (dk dX10_hinders_1 12 rfl) ?_
          refine kl_J (P := (fun J155 => ∀ (y16 : Int32) (y17 : Int32) (y18 : Int32) (s19 : St), J155 y16 y17 y18 s19 = some (v, σe) → WK 155 [(0, .ref (g.2.2 0)), (1, .int a1), (2, .int a2), (4, .long x9), (6, .int y16), (7, .int y17), (8, .int y18)] [] s19)) h (fun y16 y17 y18 s19 h => ?_) (fun J155 hJ155 h => ?_)
          ·
            unfold mX10_hinders_155 at h
            refine k_iinc (lv' := [(8, .int (y18 + 1)), (0, .ref (g.2.2 0)), (1, .int a1), (2, .int a2), (4, .long x9), (6, .int y16), (7, .int y17)]) C (dk dX10_hinders_2 11 rfl) (j := 6) rfl rfl (by decide) rfl ?_
            refine k_goto (tgt := 76) C (dk dX10_hinders_2 12 rfl) (by decide) ?_
            refine k_sub C [1, 2, 3, 4, 5, 6, 0] rfl ?_
            exact hJ76 _ _ _ _ h
          ·
            refine k_if_ne (tgt := 155) C (dk dX10_hinders_1 13 rfl) (by decide) h (fun h => ?_) (fun h => ?_)
            ·
              exact hJ155 _ _ _ _ h
            ·
              refine k_aload_n C (dk dX10_hinders_1 14 rfl) rfl 0 rfl ?_
              refine k_getR (q := 28) (D := RX10) (T := TX10) (N := 9) (ci := 5) (k := 4) C iCX10 rfl (by decide) rfl (by decide) (iW0 _ (List.mem_of_getElem? (i := 22) rfl)) rfl (dk dX10_hinders_1 15 rfl) ?_
              refine k_lload C (dk dX10_hinders_1 16 rfl) 3 rfl ?_
              refine k_iload C (dk dX10_hinders_1 17 rfl) 6 rfl ?_
              refine cl2_k h (fun x21 s20 hc h => ?_)
              refine k_cs (As := [.int y12]) (st := [.long x9, .ref (g.2.2 28)]) C (qX7_bit l g hg hc) (iW22 _ (List.mem_of_getElem? (i := 12) rfl)) (iW14 _ (List.mem_of_getElem? (i := 15) rfl)) (iW7 _ (List.mem_of_getElem? (i := 4) rfl)) (iW14 _ (List.mem_of_getElem? (i := 16) rfl)) rfl rfl hdX7_bit (by decide) rfl rfl (Nat.le_of_ble_eq_true rfl) (dk dX10_hinders_1 18 rfl) ?_
              refine k_lor C (dk dX10_hinders_1 19 rfl) ?_
              refine cl1_k h (fun s22 hc h => ?_)
              refine k_cv (T := TX0) (N := 9) (ci := 0) (ob := 28) (As := [.long (x9 ||| x21)]) (st := []) C (qX0_admit l g hg hc) (iW22 _ (List.mem_of_getElem? (i := 13) rfl)) (iW16 _ (List.mem_of_getElem? (i := 8) rfl)) (iW16 _ (List.mem_of_getElem? (i := 9) rfl)) (iW0 _ (List.mem_of_getElem? (i := 21) rfl)) (iW16 _ (List.mem_of_getElem? (i := 10) rfl)) rfl rfl hdX0_admit (by decide) rfl (by decide) rfl rfl rfl (Nat.le_of_ble_eq_true rfl) (dk dX10_hinders_1 20 rfl) ?_
              refine k_aload_n C (dk dX10_hinders_1 21 rfl) rfl 0 rfl ?_
              refine k_getR (q := 28) (D := RX10) (T := TX10) (N := 9) (ci := 5) (k := 4) C iCX10 rfl (by decide) rfl (by decide) (iW0 _ (List.mem_of_getElem? (i := 22) rfl)) rfl (dk dX10_hinders_1 22 rfl) ?_
              refine k_aload_n C (dk dX10_hinders_1 23 rfl) rfl 0 rfl ?_
              refine k_getR (q := 1) (D := RX10) (T := TX10) (N := 9) (ci := 5) (k := 0) C iCX10 rfl (by decide) rfl (by decide) (iW0 _ (List.mem_of_getElem? (i := 16) rfl)) rfl (dk dX10_hinders_1 24 rfl) ?_
              refine k_getI (D := RX3) (T := TX3) (N := 10) (ci := 1) (k := 5) C iCX3 rfl (by decide) rfl (by decide) (iW12 _ (List.mem_of_getElem? (i := 22) rfl)) rfl (dk dX10_hinders_1 25 rfl) h (fun x23 h => ?_)
              refine k_aload_n C (dk dX10_hinders_1 26 rfl) rfl 0 rfl ?_
              refine k_getR (q := 1) (D := RX10) (T := TX10) (N := 9) (ci := 5) (k := 0) C iCX10 rfl (by decide) rfl (by decide) (iW0 _ (List.mem_of_getElem? (i := 16) rfl)) rfl (dk dX10_hinders_1 27 rfl) ?_
              refine k_getI (D := RX3) (T := TX3) (N := 10) (ci := 1) (k := 6) C iCX3 rfl (by decide) rfl (by decide) (iW12 _ (List.mem_of_getElem? (i := 23) rfl)) rfl (dk dX10_hinders_1 28 rfl) h (fun x24 h => ?_)
              refine k_iload_n C (dk dX10_hinders_1 29 rfl) rfl 1 rfl ?_
              refine k_iload_n C (dk dX10_hinders_1 30 rfl) rfl 2 rfl ?_
              refine cl2_k h (fun x26 s25 hc h => ?_)
              refine k_cv (T := TX0) (N := 9) (ci := 0) (ob := 28) (As := [.int x23, .int x24, .int a1, .int a2]) (st := []) C (qX0_daysBetween l g hg hc) (iW19 _ (List.mem_of_getElem? (i := 23) rfl)) (iW19 _ (List.mem_of_getElem? (i := 24) rfl)) (iW19 _ (List.mem_of_getElem? (i := 25) rfl)) (iW0 _ (List.mem_of_getElem? (i := 21) rfl)) (iW19 _ (List.mem_of_getElem? (i := 26) rfl)) rfl rfl hdX0_daysBetween (by decide) rfl (by decide) rfl rfl rfl (Nat.le_of_ble_eq_true rfl) (dk dX10_hinders_1 31 rfl) ?_
              refine k_istore (lv' := [(9, .int x26), (0, .ref (g.2.2 0)), (1, .int a1), (2, .int a2), (4, .long x9), (6, .int y10), (7, .int y11), (8, .int y12)]) C (dk dX10_hinders_2 0 rfl) (by decide) rfl ?_
              refine k_iload C (dk dX10_hinders_2 1 rfl) 0 rfl ?_
              refine k_bipush (v := (-4 : Int32)) C (dk dX10_hinders_2 2 rfl) (by decide) ?_
              refine k_icmp_eq (tgt := 155) C (dk dX10_hinders_2 3 rfl) (by decide) h (fun h => ?_) (fun h => ?_)
              ·
                refine k_sub C [1, 2, 3, 4, 5, 6, 7] rfl ?_
                exact hJ155 _ _ _ _ h
              ·
                refine k_iload C (dk dX10_hinders_2 4 rfl) 0 rfl ?_
                refine k_iload C (dk dX10_hinders_2 5 rfl) 6 rfl ?_
                refine k_icmp_ge (tgt := 155) C (dk dX10_hinders_2 6 rfl) (by decide) h (fun h => ?_) (fun h => ?_)
                ·
                  refine k_sub C [1, 2, 3, 4, 5, 6, 7] rfl ?_
                  exact hJ155 _ _ _ _ h
                ·
                  refine k_iload C (dk dX10_hinders_2 7 rfl) 0 rfl ?_
                  refine k_istore (lv' := [(7, .int x26), (9, .int x26), (0, .ref (g.2.2 0)), (1, .int a1), (2, .int a2), (4, .long x9), (6, .int y10), (8, .int y12)]) C (dk dX10_hinders_2 8 rfl) (by decide) rfl ?_
                  refine k_iload C (dk dX10_hinders_2 9 rfl) 7 rfl ?_
                  refine k_istore (lv' := [(6, .int y12), (7, .int x26), (9, .int x26), (0, .ref (g.2.2 0)), (1, .int a1), (2, .int a2), (4, .long x9), (8, .int y12)]) C (dk dX10_hinders_2 10 rfl) (by decide) rfl ?_
                  refine k_sub C [3, 4, 5, 6, 0, 1, 7] rfl ?_
                  exact hJ155 _ _ _ _ h
      ·
        refine k_sub C [5, 6, 7, 3, 2, 1, 0] rfl ?_
        exact hJ76 _ _ _ _ h
    ·
      refine k_bipush (v := (-4 : Int32)) C (dk dX10_hinders_0 27 rfl) (by decide) ?_
      exact k_iret E (dk dX10_hinders_0 28 rfl) h
  ·
    refine k_iload_n C (dk dX10_hinders_0 7 rfl) rfl 0 rfl ?_
    exact k_iret E (dk dX10_hinders_0 8 rfl) h
set_option maxRecDepth 100000 in
set_option maxHeartbeats 4000000 in
theorem qX10_needs (l : Launch) (g : G) (hg : gOK g) {a1 : Int32} {a2 : Int32}  {s0 σe : St} {v : Int32} (h : mX10_needs a1 a2 s0 = some (v, σe)) : Mc l g yX10_needs cX10_needs 7 (some .int) { frames := 5, cells := 0, slots := 0, locals := 115 } [.ref (g.2.2 0), .int a1, .int a2] s0 (some (.int v)) σe := by
  refine k_enter hg pnRX10 rfl (Nat.le_of_ble_eq_true rfl) ?_
  intro WK E
  have C := kX_y E
  unfold mX10_needs at h
  show WK 0 [(0, .ref (g.2.2 0)), (1, .int a1), (2, .int a2)] [] s0
  refine k_aload_n C (dk dX10_needs_0 0 rfl) rfl 0 rfl ?_
  refine k_iload_n C (dk dX10_needs_0 1 rfl) rfl 1 rfl ?_
  refine k_iload_n C (dk dX10_needs_0 2 rfl) rfl 2 rfl ?_
  refine cl2_k h (fun x2 s1 hc h => ?_)
  refine k_cv (T := TX10) (N := 9) (ci := 5) (ob := 0) (As := [.int a1, .int a2]) (st := []) C (qX10_refusalToSee l g hg hc) (iW19 _ (List.mem_of_getElem? (i := 15) rfl)) (iW19 _ (List.mem_of_getElem? (i := 16) rfl)) (iW19 _ (List.mem_of_getElem? (i := 17) rfl)) (iW0 _ (List.mem_of_getElem? (i := 2) rfl)) (iW19 _ (List.mem_of_getElem? (i := 18) rfl)) rfl rfl hdX10_refusalToSee (by decide) rfl (by decide) rfl rfl rfl (Nat.le_of_ble_eq_true rfl) (dk dX10_needs_0 3 rfl) ?_
  refine k_istore_n (lv' := [(3, .int x2), (0, .ref (g.2.2 0)), (1, .int a1), (2, .int a2)]) C (dk dX10_needs_0 4 rfl) rfl (by decide) rfl ?_
  refine k_iload_n C (dk dX10_needs_0 5 rfl) rfl 0 rfl ?_
  refine k_if_eq (tgt := 13) C (dk dX10_needs_0 6 rfl) (by decide) h (fun h => ?_) (fun h => ?_)
  ·
    refine k_aload_n C (dk dX10_needs_0 9 rfl) rfl 1 rfl ?_
    refine k_getR (q := 28) (D := RX10) (T := TX10) (N := 9) (ci := 5) (k := 4) C iCX10 rfl (by decide) rfl (by decide) (iW0 _ (List.mem_of_getElem? (i := 22) rfl)) rfl (dk dX10_needs_0 10 rfl) ?_
    refine k_aload_n C (dk dX10_needs_0 11 rfl) rfl 1 rfl ?_
    refine k_getR (q := 1) (D := RX10) (T := TX10) (N := 9) (ci := 5) (k := 0) C iCX10 rfl (by decide) rfl (by decide) (iW0 _ (List.mem_of_getElem? (i := 16) rfl)) rfl (dk dX10_needs_0 12 rfl) ?_
    refine cl1_k h (fun s3 hc h => ?_)
    refine k_cv (T := TX0) (N := 9) (ci := 0) (ob := 28) (As := [.ref (g.2.2 1)]) (st := []) C (qX0_lay l g hg rfl hc) (iW15 _ (List.mem_of_getElem? (i := 23) rfl)) (iW15 _ (List.mem_of_getElem? (i := 24) rfl)) (iW15 _ (List.mem_of_getElem? (i := 25) rfl)) (iW0 _ (List.mem_of_getElem? (i := 21) rfl)) (iW15 _ (List.mem_of_getElem? (i := 26) rfl)) rfl rfl hdX0_lay (by decide) rfl (by decide) rfl rfl rfl (Nat.le_of_ble_eq_true rfl) (dk dX10_needs_0 13 rfl) ?_
    refine k_aload_n C (dk dX10_needs_0 14 rfl) rfl 1 rfl ?_
    refine k_getR (q := 1) (D := RX10) (T := TX10) (N := 9) (ci := 5) (k := 0) C iCX10 rfl (by decide) rfl (by decide) (iW0 _ (List.mem_of_getElem? (i := 16) rfl)) rfl (dk dX10_needs_0 15 rfl) ?_
    refine cl2_k h (fun x5 s4 hc h => ?_)
    refine k_cv (T := TX3) (N := 10) (ci := 1) (ob := 1) (As := []) (st := []) C (qX3_openCells l g hg rfl hc) (iW14 _ (List.mem_of_getElem? (i := 10) rfl)) (iW14 _ (List.mem_of_getElem? (i := 11) rfl)) (iW14 _ (List.mem_of_getElem? (i := 12) rfl)) (iW0 _ (List.mem_of_getElem? (i := 15) rfl)) (iW14 _ (List.mem_of_getElem? (i := 13) rfl)) rfl rfl hdX3_openCells (by decide) rfl (by decide) rfl rfl rfl (Nat.le_of_ble_eq_true rfl) (dk dX10_needs_0 16 rfl) ?_
    refine k_lstore (lv' := [(4, .long x5), (3, .int x2), (0, .ref (g.2.2 0)), (1, .int a1), (2, .int a2)]) C (dk dX10_needs_0 17 rfl) (by decide) rfl ?_
    refine k_iconst (v := (0 : Int32)) C (dk dX10_needs_0 18 rfl) (by decide) ?_
    refine k_istore (lv' := [(6, .int (0 : Int32)), (4, .long x5), (3, .int x2), (0, .ref (g.2.2 0)), (1, .int a1), (2, .int a2)]) C (dk dX10_needs_0 19 rfl) (by decide) rfl ?_
    refine kl_L (P := (fun J36 => ∀ (y6 : Int32) (s7 : St), J36 y6 s7 = some (v, σe) → WK 36 [(0, .ref (g.2.2 0)), (1, .int a1), (2, .int a2), (4, .long x5), (6, .int y6)] [] s7)) h (fun _ _ h => nomatch h) (fun J36 hJ36 y6 s7 h => ?_) (fun J36 hJ36 h => ?_)
    ·
      unfold mX10_needs_36 at h
      refine k_iload C (dk dX10_needs_0 20 rfl) 4 rfl ?_
      refine k_bipush (v := (20 : Int32)) C (dk dX10_needs_0 21 rfl) (by decide) ?_
      refine k_icmp_gt (tgt := 105) C (dk dX10_needs_0 22 rfl) (by decide) h (fun h => ?_) (fun h => ?_)
      ·
        refine k_bipush (v := (-4 : Int32)) C (dk dX10_needs_1 19 rfl) (by decide) ?_
        exact k_iret E (dk dX10_needs_1 20 rfl) h
      ·
        refine k_aload_n C (dk dX10_needs_0 23 rfl) rfl 0 rfl ?_
        refine k_getR (q := 28) (D := RX10) (T := TX10) (N := 9) (ci := 5) (k := 4) C iCX10 rfl (by decide) rfl (by decide) (iW0 _ (List.mem_of_getElem? (i := 22) rfl)) rfl (dk dX10_needs_0 24 rfl) ?_
        refine k_aload_n C (dk dX10_needs_0 25 rfl) rfl 0 rfl ?_
        refine k_getR (q := 1) (D := RX10) (T := TX10) (N := 9) (ci := 5) (k := 0) C iCX10 rfl (by decide) rfl (by decide) (iW0 _ (List.mem_of_getElem? (i := 16) rfl)) rfl (dk dX10_needs_0 26 rfl) ?_
        refine k_getI (D := RX3) (T := TX3) (N := 10) (ci := 1) (k := 3) C iCX3 rfl (by decide) rfl (by decide) (iW13 _ (List.mem_of_getElem? (i := 4) rfl)) rfl (dk dX10_needs_0 27 rfl) h (fun x8 h => ?_)
        refine k_iload C (dk dX10_needs_0 28 rfl) 4 rfl ?_
        refine cl1_k h (fun s9 hc h => ?_)
        refine k_cv (T := TX0) (N := 9) (ci := 0) (ob := 28) (As := [.int x8, .int y6]) (st := []) C (qX0_bound l g hg hc) (iW22 _ (List.mem_of_getElem? (i := 22) rfl)) (iW16 _ (List.mem_of_getElem? (i := 3) rfl)) (iW16 _ (List.mem_of_getElem? (i := 4) rfl)) (iW0 _ (List.mem_of_getElem? (i := 21) rfl)) (iW16 _ (List.mem_of_getElem? (i := 5) rfl)) rfl rfl hdX0_bound (by decide) rfl (by decide) rfl rfl rfl (Nat.le_of_ble_eq_true rfl) (dk dX10_needs_0 29 rfl) ?_
        refine k_aload_n C (dk dX10_needs_0 30 rfl) rfl 0 rfl ?_
        refine k_getR (q := 28) (D := RX10) (T := TX10) (N := 9) (ci := 5) (k := 4) C iCX10 rfl (by decide) rfl (by decide) (iW0 _ (List.mem_of_getElem? (i := 22) rfl)) rfl (dk dX10_needs_0 31 rfl) ?_
        refine k_lload C (dk dX10_needs_1 0 rfl) 3 rfl ?_
        refine cl1_k h (fun s10 hc h => ?_)
        refine k_cv (T := TX0) (N := 9) (ci := 0) (ob := 28) (As := [.long x5]) (st := []) C (qX0_admit l g hg hc) (iW22 _ (List.mem_of_getElem? (i := 13) rfl)) (iW16 _ (List.mem_of_getElem? (i := 8) rfl)) (iW16 _ (List.mem_of_getElem? (i := 9) rfl)) (iW0 _ (List.mem_of_getElem? (i := 21) rfl)) (iW16 _ (List.mem_of_getElem? (i := 10) rfl)) rfl rfl hdX0_admit (by decide) rfl (by decide) rfl rfl rfl (Nat.le_of_ble_eq_true rfl) (dk dX10_needs_1 1 rfl) ?_
        refine k_aload_n C (dk dX10_needs_1 2 rfl) rfl 0 rfl ?_
        refine k_getR (q := 28) (D := RX10) (T := TX10) (N := 9) (ci := 5) (k := 4) C iCX10 rfl (by decide) rfl (by decide) (iW0 _ (List.mem_of_getElem? (i := 22) rfl)) rfl (dk dX10_needs_1 3 rfl) ?_
        refine k_aload_n C (dk dX10_needs_1 4 rfl) rfl 0 rfl ?_
        refine k_getR (q := 1) (D := RX10) (T := TX10) (N := 9) (ci := 5) (k := 0) C iCX10 rfl (by decide) rfl (by decide) (iW0 _ (List.mem_of_getElem? (i := 16) rfl)) rfl (dk dX10_needs_1 5 rfl) ?_
        refine k_getI (D := RX3) (T := TX3) (N := 10) (ci := 1) (k := 5) C iCX3 rfl (by decide) rfl (by decide) (iW12 _ (List.mem_of_getElem? (i := 22) rfl)) rfl (dk dX10_needs_1 6 rfl) h (fun x11 h => ?_)
        refine k_aload_n C (dk dX10_needs_1 7 rfl) rfl 0 rfl ?_
        refine k_getR (q := 1) (D := RX10) (T := TX10) (N := 9) (ci := 5) (k := 0) C iCX10 rfl (by decide) rfl (by decide) (iW0 _ (List.mem_of_getElem? (i := 16) rfl)) rfl (dk dX10_needs_1 8 rfl) ?_
        refine k_getI (D := RX3) (T := TX3) (N := 10) (ci := 1) (k := 6) C iCX3 rfl (by decide) rfl (by decide) (iW12 _ (List.mem_of_getElem? (i := 23) rfl)) rfl (dk dX10_needs_1 9 rfl) h (fun x12 h => ?_)
        refine k_iload_n C (dk dX10_needs_1 10 rfl) rfl 1 rfl ?_
        refine k_iload_n C (dk dX10_needs_1 11 rfl) rfl 2 rfl ?_
        refine cl2_k h (fun x14 s13 hc h => ?_)
        refine k_cv (T := TX0) (N := 9) (ci := 0) (ob := 28) (As := [.int x11, .int x12, .int a1, .int a2]) (st := []) C (qX0_daysBetween l g hg hc) (iW19 _ (List.mem_of_getElem? (i := 23) rfl)) (iW19 _ (List.mem_of_getElem? (i := 24) rfl)) (iW19 _ (List.mem_of_getElem? (i := 25) rfl)) (iW0 _ (List.mem_of_getElem? (i := 21) rfl)) (iW19 _ (List.mem_of_getElem? (i := 26) rfl)) rfl rfl hdX0_daysBetween (by decide) rfl (by decide) rfl rfl rfl (Nat.le_of_ble_eq_true rfl) (dk dX10_needs_1 12 rfl) ?_
        refine k_bipush (v := (-4 : Int32)) C (dk dX10_needs_1 13 rfl) (by decide) ?_
        refine k_icmp_eq (tgt := 99) C (dk dX10_needs_1 14 rfl) (by decide) h (fun h => ?_) (fun h => ?_)
        ·
          refine k_iinc (lv' := [(6, .int (y6 + 1)), (0, .ref (g.2.2 0)), (1, .int a1), (2, .int a2), (4, .long x5)]) C (dk dX10_needs_1 17 rfl) (j := 4) rfl rfl (by decide) rfl ?_
          refine k_goto (tgt := 36) C (dk dX10_needs_1 18 rfl) (by decide) ?_
          refine k_sub C [1, 2, 3, 4, 0] rfl ?_
          exact hJ36 _ _ h
        ·
          refine k_iload C (dk dX10_needs_1 15 rfl) 4 rfl ?_
          exact k_iret E (dk dX10_needs_1 16 rfl) h
    ·
      refine k_sub C [3, 4, 5, 1, 0] rfl ?_
      exact hJ36 _ _ h
  ·
    refine k_iload_n C (dk dX10_needs_0 7 rfl) rfl 0 rfl ?_
    exact k_iret E (dk dX10_needs_0 8 rfl) h
set_option maxRecDepth 100000 in
set_option maxHeartbeats 4000000 in
theorem qX10_within (l : Launch) (g : G) (hg : gOK g) {a1 : Int32}  {s0 σe : St} {v : Int32} (h : mX10_within a1 s0 = some (v, σe)) : Mc l g yX10_within cX10_within 2 (some .int) { frames := 5, cells := 0, slots := 0, locals := 114 } [.ref (g.2.2 0), .int a1] s0 (some (.int v)) σe := by
  refine k_enter hg pnRX10 rfl (Nat.le_of_ble_eq_true rfl) ?_
  intro WK E
  have C := kX_y E
  unfold mX10_within at h
  show WK 0 [(0, .ref (g.2.2 0)), (1, .int a1)] [] s0
  refine k_iload_n C (dk dX10_within_0 0 rfl) rfl 1 rfl ?_
  refine k_if_lt (tgt := 10) C (dk dX10_within_0 1 rfl) (by decide) h (fun h => ?_) (fun h => ?_)
  ·
    refine k_iconst (v := (-1 : Int32)) C (dk dX10_within_0 5 rfl) (by decide) ?_
    exact k_iret E (dk dX10_within_0 6 rfl) h
  ·
    refine k_iload_n C (dk dX10_within_0 2 rfl) rfl 1 rfl ?_
    refine k_bipush (v := (40 : Int32)) C (dk dX10_within_0 3 rfl) (by decide) ?_
    refine k_icmp_le (tgt := 12) C (dk dX10_within_0 4 rfl) (by decide) h (fun h => ?_) (fun h => ?_)
    ·
      refine k_aload_n C (dk dX10_within_0 7 rfl) rfl 0 rfl ?_
      refine k_getR (q := 1) (D := RX10) (T := TX10) (N := 9) (ci := 5) (k := 0) C iCX10 rfl (by decide) rfl (by decide) (iW0 _ (List.mem_of_getElem? (i := 16) rfl)) rfl (dk dX10_within_0 8 rfl) ?_
      refine cl2_k h (fun x2 s1 hc h => ?_)
      refine k_cv (T := TX3) (N := 10) (ci := 1) (ob := 1) (As := []) (st := []) C (qX3_bothStand l g hg rfl hc) (iW19 _ (List.mem_of_getElem? (i := 19) rfl)) (iW19 _ (List.mem_of_getElem? (i := 20) rfl)) (iW19 _ (List.mem_of_getElem? (i := 21) rfl)) (iW0 _ (List.mem_of_getElem? (i := 15) rfl)) (iW19 _ (List.mem_of_getElem? (i := 22) rfl)) rfl rfl hdX3_bothStand (by decide) rfl (by decide) rfl rfl rfl (Nat.le_of_ble_eq_true rfl) (dk dX10_within_0 9 rfl) ?_
      refine k_if_ne (tgt := 25) C (dk dX10_within_0 10 rfl) (by decide) h (fun h => ?_) (fun h => ?_)
      ·
        refine k_aload_n C (dk dX10_within_0 13 rfl) rfl 0 rfl ?_
        refine k_getR (q := 28) (D := RX10) (T := TX10) (N := 9) (ci := 5) (k := 4) C iCX10 rfl (by decide) rfl (by decide) (iW0 _ (List.mem_of_getElem? (i := 22) rfl)) rfl (dk dX10_within_0 14 rfl) ?_
        refine k_aload_n C (dk dX10_within_0 15 rfl) rfl 0 rfl ?_
        refine k_getR (q := 1) (D := RX10) (T := TX10) (N := 9) (ci := 5) (k := 0) C iCX10 rfl (by decide) rfl (by decide) (iW0 _ (List.mem_of_getElem? (i := 16) rfl)) rfl (dk dX10_within_0 16 rfl) ?_
        refine cl1_k h (fun s3 hc h => ?_)
        refine k_cv (T := TX0) (N := 9) (ci := 0) (ob := 28) (As := [.ref (g.2.2 1)]) (st := []) C (qX0_lay l g hg rfl hc) (iW15 _ (List.mem_of_getElem? (i := 23) rfl)) (iW15 _ (List.mem_of_getElem? (i := 24) rfl)) (iW15 _ (List.mem_of_getElem? (i := 25) rfl)) (iW0 _ (List.mem_of_getElem? (i := 21) rfl)) (iW15 _ (List.mem_of_getElem? (i := 26) rfl)) rfl rfl hdX0_lay (by decide) rfl (by decide) rfl rfl rfl (Nat.le_of_ble_eq_true rfl) (dk dX10_within_0 17 rfl) ?_
        refine k_aload_n C (dk dX10_within_0 18 rfl) rfl 0 rfl ?_
        refine k_getR (q := 28) (D := RX10) (T := TX10) (N := 9) (ci := 5) (k := 4) C iCX10 rfl (by decide) rfl (by decide) (iW0 _ (List.mem_of_getElem? (i := 22) rfl)) rfl (dk dX10_within_0 19 rfl) ?_
        refine k_aload_n C (dk dX10_within_0 20 rfl) rfl 0 rfl ?_
        refine k_getR (q := 1) (D := RX10) (T := TX10) (N := 9) (ci := 5) (k := 0) C iCX10 rfl (by decide) rfl (by decide) (iW0 _ (List.mem_of_getElem? (i := 16) rfl)) rfl (dk dX10_within_0 21 rfl) ?_
        refine k_getI (D := RX3) (T := TX3) (N := 10) (ci := 1) (k := 5) C iCX3 rfl (by decide) rfl (by decide) (iW12 _ (List.mem_of_getElem? (i := 22) rfl)) rfl (dk dX10_within_0 22 rfl) h (fun x4 h => ?_)
        refine k_aload_n C (dk dX10_within_0 23 rfl) rfl 0 rfl ?_
        refine k_getR (q := 1) (D := RX10) (T := TX10) (N := 9) (ci := 5) (k := 0) C iCX10 rfl (by decide) rfl (by decide) (iW0 _ (List.mem_of_getElem? (i := 16) rfl)) rfl (dk dX10_within_0 24 rfl) ?_
        refine k_getI (D := RX3) (T := TX3) (N := 10) (ci := 1) (k := 6) C iCX3 rfl (by decide) rfl (by decide) (iW12 _ (List.mem_of_getElem? (i := 23) rfl)) rfl (dk dX10_within_0 25 rfl) h (fun x5 h => ?_)
        refine k_iload_n C (dk dX10_within_0 26 rfl) rfl 1 rfl ?_
        refine cl2_k h (fun x7 s6 hc h => ?_)
        refine k_cv (T := TX0) (N := 9) (ci := 0) (ob := 28) (As := [.int x4, .int x5, .int a1]) (st := []) C (qX0_pairsWithin l g hg hc) (iW23 _ (List.mem_of_getElem? (i := 1) rfl)) (iW23 _ (List.mem_of_getElem? (i := 2) rfl)) (iW23 _ (List.mem_of_getElem? (i := 3) rfl)) (iW0 _ (List.mem_of_getElem? (i := 21) rfl)) (iW23 _ (List.mem_of_getElem? (i := 4) rfl)) rfl rfl hdX0_pairsWithin (by decide) rfl (by decide) rfl rfl rfl (Nat.le_of_ble_eq_true rfl) (dk dX10_within_0 27 rfl) ?_
        exact k_iret E (dk dX10_within_0 28 rfl) h
      ·
        refine k_bipush (v := (-3 : Int32)) C (dk dX10_within_0 11 rfl) (by decide) ?_
        exact k_iret E (dk dX10_within_0 12 rfl) h
    ·
      refine k_iconst (v := (-1 : Int32)) C (dk dX10_within_0 5 rfl) (by decide) ?_
      exact k_iret E (dk dX10_within_0 6 rfl) h
set_option maxRecDepth 100000 in
set_option maxHeartbeats 4000000 in
theorem qX10_refusalToCount (l : Launch) (g : G) (hg : gOK g) {a1 : Int32}  {s0 σe : St} {v : Int32} (h : mX10_refusalToCount a1 s0 = some (v, σe)) : Mc l g yX10_refusalToCount cX10_refusalToCount 2 (some .int) { frames := 1, cells := 0, slots := 0, locals := 20 } [.ref (g.2.2 0), .int a1] s0 (some (.int v)) σe := by
  refine k_enter hg pnRX10 rfl (Nat.le_of_ble_eq_true rfl) ?_
  intro WK E
  have C := kX_y E
  unfold mX10_refusalToCount at h
  show WK 0 [(0, .ref (g.2.2 0)), (1, .int a1)] [] s0
  refine k_iload_n C (dk dX10_refusalToCount_0 0 rfl) rfl 1 rfl ?_
  refine k_if_lt (tgt := 10) C (dk dX10_refusalToCount_0 1 rfl) (by decide) h (fun h => ?_) (fun h => ?_)
  ·
    refine k_iconst (v := (-1 : Int32)) C (dk dX10_refusalToCount_0 5 rfl) (by decide) ?_
    exact k_iret E (dk dX10_refusalToCount_0 6 rfl) h
  ·
    refine k_iload_n C (dk dX10_refusalToCount_0 2 rfl) rfl 1 rfl ?_
    refine k_bipush (v := (10 : Int32)) C (dk dX10_refusalToCount_0 3 rfl) (by decide) ?_
    refine k_icmp_le (tgt := 12) C (dk dX10_refusalToCount_0 4 rfl) (by decide) h (fun h => ?_) (fun h => ?_)
    ·
      refine k_aload_n C (dk dX10_refusalToCount_0 7 rfl) rfl 0 rfl ?_
      refine k_getR (q := 1) (D := RX10) (T := TX10) (N := 9) (ci := 5) (k := 0) C iCX10 rfl (by decide) rfl (by decide) (iW0 _ (List.mem_of_getElem? (i := 16) rfl)) rfl (dk dX10_refusalToCount_0 8 rfl) ?_
      refine cl2_k h (fun x2 s1 hc h => ?_)
      refine k_cv (T := TX3) (N := 10) (ci := 1) (ob := 1) (As := []) (st := []) C (qX3_bothStand l g hg rfl hc) (iW19 _ (List.mem_of_getElem? (i := 19) rfl)) (iW19 _ (List.mem_of_getElem? (i := 20) rfl)) (iW19 _ (List.mem_of_getElem? (i := 21) rfl)) (iW0 _ (List.mem_of_getElem? (i := 15) rfl)) (iW19 _ (List.mem_of_getElem? (i := 22) rfl)) rfl rfl hdX3_bothStand (by decide) rfl (by decide) rfl rfl rfl (Nat.le_of_ble_eq_true rfl) (dk dX10_refusalToCount_0 9 rfl) ?_
      refine k_if_eq (tgt := 26) C (dk dX10_refusalToCount_0 10 rfl) (by decide) h (fun h => ?_) (fun h => ?_)
      ·
        refine k_bipush (v := (-3 : Int32)) C (dk dX10_refusalToCount_0 13 rfl) (by decide) ?_
        exact k_iret E (dk dX10_refusalToCount_0 14 rfl) h
      ·
        refine k_iconst (v := (0 : Int32)) C (dk dX10_refusalToCount_0 11 rfl) (by decide) ?_
        refine k_goto (tgt := 28) C (dk dX10_refusalToCount_0 12 rfl) (by decide) ?_
        exact k_iret E (dk dX10_refusalToCount_0 14 rfl) h
    ·
      refine k_iconst (v := (-1 : Int32)) C (dk dX10_refusalToCount_0 5 rfl) (by decide) ?_
      exact k_iret E (dk dX10_refusalToCount_0 6 rfl) h
set_option maxRecDepth 100000 in
set_option maxHeartbeats 4000000 in
theorem qX10_ofLongs (l : Launch) (g : G) (hg : gOK g) {a0 : Int32}  {s0 σe : St} {v : Int64} (h : mX10_ofLongs a0 s0 = some (v, σe)) : Mc l g yX10_ofLongs cX10_ofLongs 1 (some .long) { frames := 0, cells := 0, slots := 0, locals := 0 } [.int a0] s0 (some (.long v)) σe := by
  refine k_enter hg pnRX10 rfl (Nat.le_of_ble_eq_true rfl) ?_
  intro WK E
  have C := kX_y E
  unfold mX10_ofLongs at h
  show WK 0 [(0, .int a0)] [] s0
  refine k_iload_n C (dk dX10_ofLongs_0 0 rfl) rfl 0 rfl ?_
  refine k_i2l C (dk dX10_ofLongs_0 1 rfl) ?_
  refine k_ldc2 (v := (1000000000 : Int64)) C (dk dX10_ofLongs_0 2 rfl) (iW23 _ (List.mem_of_getElem? (i := 21) rfl)) ?_
  refine k_lsub C (dk dX10_ofLongs_0 3 rfl) ?_
  exact k_lret E (dk dX10_ofLongs_0 4 rfl) h
set_option maxRecDepth 100000 in
set_option maxHeartbeats 4000000 in
theorem qX10_ways (l : Launch) (g : G) (hg : gOK g) {a1 : Int32}  {s0 σe : St} {v : Int64} (h : mX10_ways a1 s0 = some (v, σe)) : Mc l g yX10_ways cX10_ways 3 (some .long) { frames := 4, cells := 0, slots := 0, locals := 90 } [.ref (g.2.2 0), .int a1] s0 (some (.long v)) σe := by
  refine k_enter hg pnRX10 rfl (Nat.le_of_ble_eq_true rfl) ?_
  intro WK E
  have C := kX_y E
  unfold mX10_ways at h
  show WK 0 [(0, .ref (g.2.2 0)), (1, .int a1)] [] s0
  refine k_aload_n C (dk dX10_ways_0 0 rfl) rfl 0 rfl ?_
  refine k_iload_n C (dk dX10_ways_0 1 rfl) rfl 1 rfl ?_
  refine cl2_k h (fun x2 s1 hc h => ?_)
  refine k_cv (T := TX10) (N := 9) (ci := 5) (ob := 0) (As := [.int a1]) (st := []) C (qX10_refusalToCount l g hg hc) (iW23 _ (List.mem_of_getElem? (i := 14) rfl)) (iW23 _ (List.mem_of_getElem? (i := 15) rfl)) (iW23 _ (List.mem_of_getElem? (i := 16) rfl)) (iW0 _ (List.mem_of_getElem? (i := 2) rfl)) (iW23 _ (List.mem_of_getElem? (i := 17) rfl)) rfl rfl hdX10_refusalToCount (by decide) rfl (by decide) rfl rfl rfl (Nat.le_of_ble_eq_true rfl) (dk dX10_ways_0 2 rfl) ?_
  refine k_istore_n (lv' := [(2, .int x2), (0, .ref (g.2.2 0)), (1, .int a1)]) C (dk dX10_ways_0 3 rfl) rfl (by decide) rfl ?_
  refine k_iload_n C (dk dX10_ways_0 4 rfl) rfl 0 rfl ?_
  refine k_if_eq (tgt := 15) C (dk dX10_ways_0 5 rfl) (by decide) h (fun h => ?_) (fun h => ?_)
  ·
    refine k_aload_n C (dk dX10_ways_0 9 rfl) rfl 1 rfl ?_
    refine k_getR (q := 28) (D := RX10) (T := TX10) (N := 9) (ci := 5) (k := 4) C iCX10 rfl (by decide) rfl (by decide) (iW0 _ (List.mem_of_getElem? (i := 22) rfl)) rfl (dk dX10_ways_0 10 rfl) ?_
    refine k_aload_n C (dk dX10_ways_0 11 rfl) rfl 1 rfl ?_
    refine k_getR (q := 1) (D := RX10) (T := TX10) (N := 9) (ci := 5) (k := 0) C iCX10 rfl (by decide) rfl (by decide) (iW0 _ (List.mem_of_getElem? (i := 16) rfl)) rfl (dk dX10_ways_0 12 rfl) ?_
    refine cl1_k h (fun s3 hc h => ?_)
    refine k_cv (T := TX0) (N := 9) (ci := 0) (ob := 28) (As := [.ref (g.2.2 1)]) (st := []) C (qX0_lay l g hg rfl hc) (iW15 _ (List.mem_of_getElem? (i := 23) rfl)) (iW15 _ (List.mem_of_getElem? (i := 24) rfl)) (iW15 _ (List.mem_of_getElem? (i := 25) rfl)) (iW0 _ (List.mem_of_getElem? (i := 21) rfl)) (iW15 _ (List.mem_of_getElem? (i := 26) rfl)) rfl rfl hdX0_lay (by decide) rfl (by decide) rfl rfl rfl (Nat.le_of_ble_eq_true rfl) (dk dX10_ways_0 13 rfl) ?_
    refine k_aload_n C (dk dX10_ways_0 14 rfl) rfl 1 rfl ?_
    refine k_getR (q := 28) (D := RX10) (T := TX10) (N := 9) (ci := 5) (k := 4) C iCX10 rfl (by decide) rfl (by decide) (iW0 _ (List.mem_of_getElem? (i := 22) rfl)) rfl (dk dX10_ways_0 15 rfl) ?_
    refine k_aload_n C (dk dX10_ways_0 16 rfl) rfl 1 rfl ?_
    refine k_getR (q := 1) (D := RX10) (T := TX10) (N := 9) (ci := 5) (k := 0) C iCX10 rfl (by decide) rfl (by decide) (iW0 _ (List.mem_of_getElem? (i := 16) rfl)) rfl (dk dX10_ways_0 17 rfl) ?_
    refine k_getI (D := RX3) (T := TX3) (N := 10) (ci := 1) (k := 5) C iCX3 rfl (by decide) rfl (by decide) (iW12 _ (List.mem_of_getElem? (i := 22) rfl)) rfl (dk dX10_ways_0 18 rfl) h (fun x4 h => ?_)
    refine k_aload_n C (dk dX10_ways_0 19 rfl) rfl 1 rfl ?_
    refine k_getR (q := 1) (D := RX10) (T := TX10) (N := 9) (ci := 5) (k := 0) C iCX10 rfl (by decide) rfl (by decide) (iW0 _ (List.mem_of_getElem? (i := 16) rfl)) rfl (dk dX10_ways_0 20 rfl) ?_
    refine k_getI (D := RX3) (T := TX3) (N := 10) (ci := 1) (k := 6) C iCX3 rfl (by decide) rfl (by decide) (iW12 _ (List.mem_of_getElem? (i := 23) rfl)) rfl (dk dX10_ways_0 21 rfl) h (fun x5 h => ?_)
    refine k_iload_n C (dk dX10_ways_0 22 rfl) rfl 2 rfl ?_
    refine cl1_k h (fun s6 hc h => ?_)
    refine k_cv (T := TX0) (N := 9) (ci := 0) (ob := 28) (As := [.int x4, .int x5, .int a1]) (st := []) C (qX0_walk l g hg hc) (iW23 _ (List.mem_of_getElem? (i := 22) rfl)) (iW23 _ (List.mem_of_getElem? (i := 23) rfl)) (iW23 _ (List.mem_of_getElem? (i := 24) rfl)) (iW0 _ (List.mem_of_getElem? (i := 21) rfl)) (iW23 _ (List.mem_of_getElem? (i := 25) rfl)) rfl rfl hdX0_walk (by decide) rfl (by decide) rfl rfl rfl (Nat.le_of_ble_eq_true rfl) (dk dX10_ways_0 23 rfl) ?_
    refine k_aload_n C (dk dX10_ways_0 24 rfl) rfl 1 rfl ?_
    refine k_getR (q := 28) (D := RX10) (T := TX10) (N := 9) (ci := 5) (k := 4) C iCX10 rfl (by decide) rfl (by decide) (iW0 _ (List.mem_of_getElem? (i := 22) rfl)) rfl (dk dX10_ways_0 25 rfl) ?_
    refine cl2_k h (fun x8 s7 hc h => ?_)
    refine k_cv (T := TX0) (N := 9) (ci := 0) (ob := 28) (As := []) (st := []) C (qX0_walksInAll l g hg hc) (iW24 _ (List.mem_of_getElem? (i := 4) rfl)) (iW24 _ (List.mem_of_getElem? (i := 5) rfl)) (iW24 _ (List.mem_of_getElem? (i := 6) rfl)) (iW0 _ (List.mem_of_getElem? (i := 21) rfl)) (iW24 _ (List.mem_of_getElem? (i := 7) rfl)) rfl rfl hdX0_walksInAll (by decide) rfl (by decide) rfl rfl rfl (Nat.le_of_ble_eq_true rfl) (dk dX10_ways_0 26 rfl) ?_
    exact k_lret E (dk dX10_ways_0 27 rfl) h
  ·
    refine k_iload_n C (dk dX10_ways_0 6 rfl) rfl 0 rfl ?_
    refine cl2_k h (fun x10 s9 hc h => ?_)
    refine k_cs (As := [.int x2]) (st := []) C (qX10_ofLongs l g hg hc) (iW23 _ (List.mem_of_getElem? (i := 18) rfl)) (iW23 _ (List.mem_of_getElem? (i := 19) rfl)) (iW0 _ (List.mem_of_getElem? (i := 2) rfl)) (iW23 _ (List.mem_of_getElem? (i := 20) rfl)) rfl rfl hdX10_ofLongs (by decide) rfl rfl (Nat.le_of_ble_eq_true rfl) (dk dX10_ways_0 7 rfl) ?_
    exact k_lret E (dk dX10_ways_0 8 rfl) h
set_option maxRecDepth 100000 in
set_option maxHeartbeats 4000000 in
theorem qX10_rounds (l : Launch) (g : G) (hg : gOK g) {a1 : Int32}  {s0 σe : St} {v : Int64} (h : mX10_rounds a1 s0 = some (v, σe)) : Mc l g yX10_rounds cX10_rounds 3 (some .long) { frames := 4, cells := 0, slots := 0, locals := 90 } [.ref (g.2.2 0), .int a1] s0 (some (.long v)) σe := by
  refine k_enter hg pnRX10 rfl (Nat.le_of_ble_eq_true rfl) ?_
  intro WK E
  have C := kX_y E
  unfold mX10_rounds at h
  show WK 0 [(0, .ref (g.2.2 0)), (1, .int a1)] [] s0
  refine k_aload_n C (dk dX10_rounds_0 0 rfl) rfl 0 rfl ?_
  refine k_iload_n C (dk dX10_rounds_0 1 rfl) rfl 1 rfl ?_
  refine cl2_k h (fun x2 s1 hc h => ?_)
  refine k_cv (T := TX10) (N := 9) (ci := 5) (ob := 0) (As := [.int a1]) (st := []) C (qX10_refusalToCount l g hg hc) (iW23 _ (List.mem_of_getElem? (i := 14) rfl)) (iW23 _ (List.mem_of_getElem? (i := 15) rfl)) (iW23 _ (List.mem_of_getElem? (i := 16) rfl)) (iW0 _ (List.mem_of_getElem? (i := 2) rfl)) (iW23 _ (List.mem_of_getElem? (i := 17) rfl)) rfl rfl hdX10_refusalToCount (by decide) rfl (by decide) rfl rfl rfl (Nat.le_of_ble_eq_true rfl) (dk dX10_rounds_0 2 rfl) ?_
  refine k_istore_n (lv' := [(2, .int x2), (0, .ref (g.2.2 0)), (1, .int a1)]) C (dk dX10_rounds_0 3 rfl) rfl (by decide) rfl ?_
  refine k_iload_n C (dk dX10_rounds_0 4 rfl) rfl 0 rfl ?_
  refine k_if_eq (tgt := 15) C (dk dX10_rounds_0 5 rfl) (by decide) h (fun h => ?_) (fun h => ?_)
  ·
    refine k_aload_n C (dk dX10_rounds_0 9 rfl) rfl 1 rfl ?_
    refine k_getR (q := 28) (D := RX10) (T := TX10) (N := 9) (ci := 5) (k := 4) C iCX10 rfl (by decide) rfl (by decide) (iW0 _ (List.mem_of_getElem? (i := 22) rfl)) rfl (dk dX10_rounds_0 10 rfl) ?_
    refine k_aload_n C (dk dX10_rounds_0 11 rfl) rfl 1 rfl ?_
    refine k_getR (q := 1) (D := RX10) (T := TX10) (N := 9) (ci := 5) (k := 0) C iCX10 rfl (by decide) rfl (by decide) (iW0 _ (List.mem_of_getElem? (i := 16) rfl)) rfl (dk dX10_rounds_0 12 rfl) ?_
    refine cl1_k h (fun s3 hc h => ?_)
    refine k_cv (T := TX0) (N := 9) (ci := 0) (ob := 28) (As := [.ref (g.2.2 1)]) (st := []) C (qX0_lay l g hg rfl hc) (iW15 _ (List.mem_of_getElem? (i := 23) rfl)) (iW15 _ (List.mem_of_getElem? (i := 24) rfl)) (iW15 _ (List.mem_of_getElem? (i := 25) rfl)) (iW0 _ (List.mem_of_getElem? (i := 21) rfl)) (iW15 _ (List.mem_of_getElem? (i := 26) rfl)) rfl rfl hdX0_lay (by decide) rfl (by decide) rfl rfl rfl (Nat.le_of_ble_eq_true rfl) (dk dX10_rounds_0 13 rfl) ?_
    refine k_aload_n C (dk dX10_rounds_0 14 rfl) rfl 1 rfl ?_
    refine k_getR (q := 28) (D := RX10) (T := TX10) (N := 9) (ci := 5) (k := 4) C iCX10 rfl (by decide) rfl (by decide) (iW0 _ (List.mem_of_getElem? (i := 22) rfl)) rfl (dk dX10_rounds_0 15 rfl) ?_
    refine k_aload_n C (dk dX10_rounds_0 16 rfl) rfl 1 rfl ?_
    refine k_getR (q := 1) (D := RX10) (T := TX10) (N := 9) (ci := 5) (k := 0) C iCX10 rfl (by decide) rfl (by decide) (iW0 _ (List.mem_of_getElem? (i := 16) rfl)) rfl (dk dX10_rounds_0 17 rfl) ?_
    refine k_getI (D := RX3) (T := TX3) (N := 10) (ci := 1) (k := 5) C iCX3 rfl (by decide) rfl (by decide) (iW12 _ (List.mem_of_getElem? (i := 22) rfl)) rfl (dk dX10_rounds_0 18 rfl) h (fun x4 h => ?_)
    refine k_aload_n C (dk dX10_rounds_0 19 rfl) rfl 1 rfl ?_
    refine k_getR (q := 1) (D := RX10) (T := TX10) (N := 9) (ci := 5) (k := 0) C iCX10 rfl (by decide) rfl (by decide) (iW0 _ (List.mem_of_getElem? (i := 16) rfl)) rfl (dk dX10_rounds_0 20 rfl) ?_
    refine k_getI (D := RX3) (T := TX3) (N := 10) (ci := 1) (k := 6) C iCX3 rfl (by decide) rfl (by decide) (iW12 _ (List.mem_of_getElem? (i := 23) rfl)) rfl (dk dX10_rounds_0 21 rfl) h (fun x5 h => ?_)
    refine k_iload_n C (dk dX10_rounds_0 22 rfl) rfl 2 rfl ?_
    refine cl1_k h (fun s6 hc h => ?_)
    refine k_cv (T := TX0) (N := 9) (ci := 0) (ob := 28) (As := [.int x4, .int x5, .int a1]) (st := []) C (qX0_walk l g hg hc) (iW23 _ (List.mem_of_getElem? (i := 22) rfl)) (iW23 _ (List.mem_of_getElem? (i := 23) rfl)) (iW23 _ (List.mem_of_getElem? (i := 24) rfl)) (iW0 _ (List.mem_of_getElem? (i := 21) rfl)) (iW23 _ (List.mem_of_getElem? (i := 25) rfl)) rfl rfl hdX0_walk (by decide) rfl (by decide) rfl rfl rfl (Nat.le_of_ble_eq_true rfl) (dk dX10_rounds_0 23 rfl) ?_
    refine k_aload_n C (dk dX10_rounds_0 24 rfl) rfl 1 rfl ?_
    refine k_getR (q := 28) (D := RX10) (T := TX10) (N := 9) (ci := 5) (k := 4) C iCX10 rfl (by decide) rfl (by decide) (iW0 _ (List.mem_of_getElem? (i := 22) rfl)) rfl (dk dX10_rounds_0 25 rfl) ?_
    refine k_aload_n C (dk dX10_rounds_0 26 rfl) rfl 1 rfl ?_
    refine k_getR (q := 1) (D := RX10) (T := TX10) (N := 9) (ci := 5) (k := 0) C iCX10 rfl (by decide) rfl (by decide) (iW0 _ (List.mem_of_getElem? (i := 16) rfl)) rfl (dk dX10_rounds_0 27 rfl) ?_
    refine k_getI (D := RX3) (T := TX3) (N := 10) (ci := 1) (k := 5) C iCX3 rfl (by decide) rfl (by decide) (iW12 _ (List.mem_of_getElem? (i := 22) rfl)) rfl (dk dX10_rounds_0 28 rfl) h (fun x7 h => ?_)
    refine k_aload_n C (dk dX10_rounds_0 29 rfl) rfl 1 rfl ?_
    refine k_getR (q := 1) (D := RX10) (T := TX10) (N := 9) (ci := 5) (k := 0) C iCX10 rfl (by decide) rfl (by decide) (iW0 _ (List.mem_of_getElem? (i := 16) rfl)) rfl (dk dX10_rounds_0 30 rfl) ?_
    refine k_getI (D := RX3) (T := TX3) (N := 10) (ci := 1) (k := 6) C iCX3 rfl (by decide) rfl (by decide) (iW12 _ (List.mem_of_getElem? (i := 23) rfl)) rfl (dk dX10_rounds_0 31 rfl) h (fun x8 h => ?_)
    refine cl2_k h (fun x10 s9 hc h => ?_)
    refine k_cv (T := TX0) (N := 9) (ci := 0) (ob := 28) (As := [.int x7, .int x8]) (st := []) C (qX0_walksTo l g hg hc) (iW24 _ (List.mem_of_getElem? (i := 26) rfl)) (iW24 _ (List.mem_of_getElem? (i := 27) rfl)) (iW24 _ (List.mem_of_getElem? (i := 28) rfl)) (iW0 _ (List.mem_of_getElem? (i := 21) rfl)) (iW24 _ (List.mem_of_getElem? (i := 29) rfl)) rfl rfl hdX0_walksTo (by decide) rfl (by decide) rfl rfl rfl (Nat.le_of_ble_eq_true rfl) (dk dX10_rounds_1 0 rfl) ?_
    exact k_lret E (dk dX10_rounds_1 1 rfl) h
  ·
    refine k_iload_n C (dk dX10_rounds_0 6 rfl) rfl 0 rfl ?_
    refine cl2_k h (fun x12 s11 hc h => ?_)
    refine k_cs (As := [.int x2]) (st := []) C (qX10_ofLongs l g hg hc) (iW23 _ (List.mem_of_getElem? (i := 18) rfl)) (iW23 _ (List.mem_of_getElem? (i := 19) rfl)) (iW0 _ (List.mem_of_getElem? (i := 2) rfl)) (iW23 _ (List.mem_of_getElem? (i := 20) rfl)) rfl rfl hdX10_ofLongs (by decide) rfl rfl (Nat.le_of_ble_eq_true rfl) (dk dX10_rounds_0 7 rfl) ?_
    exact k_lret E (dk dX10_rounds_0 8 rfl) h
set_option maxRecDepth 100000 in
set_option maxHeartbeats 4000000 in
theorem qX10_late (l : Launch) (g : G) (hg : gOK g) {a1 : Int32} {a2 : Int32}  {s0 σe : St} {v : Int32} (h : mX10_late a1 a2 s0 = some (v, σe)) : Mc l g yX10_late cX10_late 8 (some .int) { frames := 4, cells := 0, slots := 0, locals := 90 } [.ref (g.2.2 0), .int a1, .int a2] s0 (some (.int v)) σe := by
  refine k_enter hg pnRX10 rfl (Nat.le_of_ble_eq_true rfl) ?_
  intro WK E
  have C := kX_y E
  unfold mX10_late at h
  show WK 0 [(0, .ref (g.2.2 0)), (1, .int a1), (2, .int a2)] [] s0
  refine k_iload_n C (dk dX10_late_0 0 rfl) rfl 1 rfl ?_
  refine k_i2l C (dk dX10_late_0 1 rfl) ?_
  refine cl2_k h (fun x2 s1 hc h => ?_)
  refine k_cs (As := [.long a1.toInt64]) (st := []) C (qX10_isCell l g hg hc) (iW10 _ (List.mem_of_getElem? (i := 29) rfl)) (iW5 _ (List.mem_of_getElem? (i := 20) rfl)) (iW0 _ (List.mem_of_getElem? (i := 2) rfl)) (iW5 _ (List.mem_of_getElem? (i := 21) rfl)) rfl rfl hdX10_isCell (by decide) rfl rfl (Nat.le_of_ble_eq_true rfl) (dk dX10_late_0 2 rfl) ?_
  refine k_if_eq (tgt := 18) C (dk dX10_late_0 3 rfl) (by decide) h (fun h => ?_) (fun h => ?_)
  ·
    refine k_iconst (v := (-1 : Int32)) C (dk dX10_late_0 9 rfl) (by decide) ?_
    exact k_iret E (dk dX10_late_0 10 rfl) h
  ·
    refine k_iload_n C (dk dX10_late_0 4 rfl) rfl 2 rfl ?_
    refine k_if_lt (tgt := 18) C (dk dX10_late_0 5 rfl) (by decide) h (fun h => ?_) (fun h => ?_)
    ·
      refine k_iconst (v := (-1 : Int32)) C (dk dX10_late_0 9 rfl) (by decide) ?_
      exact k_iret E (dk dX10_late_0 10 rfl) h
    ·
      refine k_iload_n C (dk dX10_late_0 6 rfl) rfl 2 rfl ?_
      refine k_bipush (v := (8 : Int32)) C (dk dX10_late_0 7 rfl) (by decide) ?_
      refine k_icmp_le (tgt := 20) C (dk dX10_late_0 8 rfl) (by decide) h (fun h => ?_) (fun h => ?_)
      ·
        refine k_aload_n C (dk dX10_late_0 11 rfl) rfl 0 rfl ?_
        refine k_getR (q := 1) (D := RX10) (T := TX10) (N := 9) (ci := 5) (k := 0) C iCX10 rfl (by decide) rfl (by decide) (iW0 _ (List.mem_of_getElem? (i := 16) rfl)) rfl (dk dX10_late_0 12 rfl) ?_
        refine k_getI (D := RX3) (T := TX3) (N := 10) (ci := 1) (k := 5) C iCX3 rfl (by decide) rfl (by decide) (iW12 _ (List.mem_of_getElem? (i := 22) rfl)) rfl (dk dX10_late_0 13 rfl) h (fun x3 h => ?_)
        refine k_bipush (v := (-4 : Int32)) C (dk dX10_late_0 14 rfl) (by decide) ?_
        refine k_icmp_eq (tgt := 43) C (dk dX10_late_0 15 rfl) (by decide) h (fun h => ?_) (fun h => ?_)
        ·
          refine k_bipush (v := (-3 : Int32)) C (dk dX10_late_0 21 rfl) (by decide) ?_
          exact k_iret E (dk dX10_late_0 22 rfl) h
        ·
          refine k_aload_n C (dk dX10_late_0 16 rfl) rfl 0 rfl ?_
          refine k_getR (q := 1) (D := RX10) (T := TX10) (N := 9) (ci := 5) (k := 0) C iCX10 rfl (by decide) rfl (by decide) (iW0 _ (List.mem_of_getElem? (i := 16) rfl)) rfl (dk dX10_late_0 17 rfl) ?_
          refine k_iload_n C (dk dX10_late_0 18 rfl) rfl 1 rfl ?_
          refine cl2_k h (fun x5 s4 hc h => ?_)
          refine k_cv (T := TX3) (N := 10) (ci := 1) (ob := 1) (As := [.int a1]) (st := []) C (qX3_isOpen l g hg rfl hc) (iW11 _ (List.mem_of_getElem? (i := 9) rfl)) (iW6 _ (List.mem_of_getElem? (i := 1) rfl)) (iW6 _ (List.mem_of_getElem? (i := 2) rfl)) (iW0 _ (List.mem_of_getElem? (i := 15) rfl)) (iW6 _ (List.mem_of_getElem? (i := 3) rfl)) rfl rfl hdX3_isOpen (by decide) rfl (by decide) rfl rfl rfl (Nat.le_of_ble_eq_true rfl) (dk dX10_late_0 19 rfl) ?_
          refine k_if_ne (tgt := 46) C (dk dX10_late_0 20 rfl) (by decide) h (fun h => ?_) (fun h => ?_)
          ·
            refine k_aload_n C (dk dX10_late_0 23 rfl) rfl 0 rfl ?_
            refine k_getR (q := 28) (D := RX10) (T := TX10) (N := 9) (ci := 5) (k := 4) C iCX10 rfl (by decide) rfl (by decide) (iW0 _ (List.mem_of_getElem? (i := 22) rfl)) rfl (dk dX10_late_0 24 rfl) ?_
            refine k_aload_n C (dk dX10_late_0 25 rfl) rfl 0 rfl ?_
            refine k_getR (q := 1) (D := RX10) (T := TX10) (N := 9) (ci := 5) (k := 0) C iCX10 rfl (by decide) rfl (by decide) (iW0 _ (List.mem_of_getElem? (i := 16) rfl)) rfl (dk dX10_late_0 26 rfl) ?_
            refine cl1_k h (fun s6 hc h => ?_)
            refine k_cv (T := TX0) (N := 9) (ci := 0) (ob := 28) (As := [.ref (g.2.2 1)]) (st := []) C (qX0_lay l g hg rfl hc) (iW15 _ (List.mem_of_getElem? (i := 23) rfl)) (iW15 _ (List.mem_of_getElem? (i := 24) rfl)) (iW15 _ (List.mem_of_getElem? (i := 25) rfl)) (iW0 _ (List.mem_of_getElem? (i := 21) rfl)) (iW15 _ (List.mem_of_getElem? (i := 26) rfl)) rfl rfl hdX0_lay (by decide) rfl (by decide) rfl rfl rfl (Nat.le_of_ble_eq_true rfl) (dk dX10_late_0 27 rfl) ?_
            refine k_iload_n C (dk dX10_late_0 28 rfl) rfl 1 rfl ?_
            refine k_iload_n C (dk dX10_late_0 29 rfl) rfl 2 rfl ?_
            refine k_iconst (v := (1 : Int32)) C (dk dX10_late_0 30 rfl) (by decide) ?_
            refine k_iadd C (dk dX10_late_0 31 rfl) ?_
            refine k_aload_n C (dk dX10_late_1 0 rfl) rfl 0 rfl ?_
            refine k_getR (q := 1) (D := RX10) (T := TX10) (N := 9) (ci := 5) (k := 0) C iCX10 rfl (by decide) rfl (by decide) (iW0 _ (List.mem_of_getElem? (i := 16) rfl)) rfl (dk dX10_late_1 1 rfl) ?_
            refine cl2_k h (fun x8 s7 hc h => ?_)
            refine k_cv (T := TX3) (N := 10) (ci := 1) (ob := 1) (As := []) (st := [.int (a2 + (1 : Int32)), .int a1]) C (qX3_openCells l g hg rfl hc) (iW14 _ (List.mem_of_getElem? (i := 10) rfl)) (iW14 _ (List.mem_of_getElem? (i := 11) rfl)) (iW14 _ (List.mem_of_getElem? (i := 12) rfl)) (iW0 _ (List.mem_of_getElem? (i := 15) rfl)) (iW14 _ (List.mem_of_getElem? (i := 13) rfl)) rfl rfl hdX3_openCells (by decide) rfl (by decide) rfl rfl rfl (Nat.le_of_ble_eq_true rfl) (dk dX10_late_1 2 rfl) ?_
            refine cl2_k h (fun x10 s9 hc h => ?_)
            refine k_cs (As := [.int a1, .int (a2 + (1 : Int32)), .long x8]) (st := []) C (qX7_cellsWithin l g hg hc) (iW25 _ (List.mem_of_getElem? (i := 9) rfl)) (iW17 _ (List.mem_of_getElem? (i := 28) rfl)) (iW7 _ (List.mem_of_getElem? (i := 4) rfl)) (iW17 _ (List.mem_of_getElem? (i := 29) rfl)) rfl rfl hdX7_cellsWithin (by decide) rfl rfl (Nat.le_of_ble_eq_true rfl) (dk dX10_late_1 3 rfl) ?_
            refine k_lstore_n (lv' := [(3, .long x10), (0, .ref (g.2.2 0)), (1, .int a1), (2, .int a2)]) C (dk dX10_late_1 4 rfl) rfl (by decide) rfl ?_
            refine k_iconst (v := (0 : Int32)) C (dk dX10_late_1 5 rfl) (by decide) ?_
            refine k_istore (lv' := [(5, .int (0 : Int32)), (3, .long x10), (0, .ref (g.2.2 0)), (1, .int a1), (2, .int a2)]) C (dk dX10_late_1 6 rfl) (by decide) rfl ?_
            refine k_iconst (v := (0 : Int32)) C (dk dX10_late_1 7 rfl) (by decide) ?_
            refine k_istore (lv' := [(6, .int (0 : Int32)), (5, .int (0 : Int32)), (3, .long x10), (0, .ref (g.2.2 0)), (1, .int a1), (2, .int a2)]) C (dk dX10_late_1 8 rfl) (by decide) rfl ?_
            refine kl_L (P := (fun J78 => ∀ (y11 : Int32) (y12 : Int32) (s13 : St), J78 y11 y12 s13 = some (v, σe) → WK 78 [(0, .ref (g.2.2 0)), (3, .long x10), (5, .int y11), (6, .int y12)] [] s13)) h (fun _ _ _ h => nomatch h) (fun J78 hJ78 y11 y12 s13 h => ?_) (fun J78 hJ78 h => ?_)
            ·
              unfold mX10_late_78 at h
              refine k_iload C (dk dX10_late_1 9 rfl) 3 rfl ?_
              refine k_iconst (v := (5 : Int32)) C (dk dX10_late_1 10 rfl) (by decide) ?_
              refine k_icmp_ge (tgt := 144) C (dk dX10_late_1 11 rfl) (by decide) h (fun h => ?_) (fun h => ?_)
              ·
                refine k_iload C (dk dX10_late_2 10 rfl) 2 rfl ?_
                exact k_iret E (dk dX10_late_2 11 rfl) h
              ·
                refine k_aload_n C (dk dX10_late_1 12 rfl) rfl 0 rfl ?_
                refine k_getR (q := 1) (D := RX10) (T := TX10) (N := 9) (ci := 5) (k := 0) C iCX10 rfl (by decide) rfl (by decide) (iW0 _ (List.mem_of_getElem? (i := 16) rfl)) rfl (dk dX10_late_1 13 rfl) ?_
                refine k_aload_n C (dk dX10_late_1 14 rfl) rfl 0 rfl ?_
                refine k_getR (q := 1) (D := RX10) (T := TX10) (N := 9) (ci := 5) (k := 0) C iCX10 rfl (by decide) rfl (by decide) (iW0 _ (List.mem_of_getElem? (i := 16) rfl)) rfl (dk dX10_late_1 15 rfl) ?_
                refine k_getI (D := RX3) (T := TX3) (N := 10) (ci := 1) (k := 5) C iCX3 rfl (by decide) rfl (by decide) (iW12 _ (List.mem_of_getElem? (i := 22) rfl)) rfl (dk dX10_late_1 16 rfl) h (fun x14 h => ?_)
                refine k_iload C (dk dX10_late_1 17 rfl) 3 rfl ?_
                refine cl2_k h (fun x16 s15 hc h => ?_)
                refine k_cv (T := TX3) (N := 10) (ci := 1) (ob := 1) (As := [.int x14, .int y12]) (st := []) C (qX3_cellBy l g hg rfl hc) (iW25 _ (List.mem_of_getElem? (i := 10) rfl)) (iW6 _ (List.mem_of_getElem? (i := 29) rfl)) (iW7 _ (List.mem_of_getElem? (i := 0) rfl)) (iW0 _ (List.mem_of_getElem? (i := 15) rfl)) (iW7 _ (List.mem_of_getElem? (i := 1) rfl)) rfl rfl hdX3_cellBy (by decide) rfl (by decide) rfl rfl rfl (Nat.le_of_ble_eq_true rfl) (dk dX10_late_1 18 rfl) ?_
                refine k_istore (lv' := [(7, .int x16), (0, .ref (g.2.2 0)), (3, .long x10), (5, .int y11), (6, .int y12)]) C (dk dX10_late_1 19 rfl) (by decide) rfl ?_
                refine k_iload C (dk dX10_late_1 20 rfl) 0 rfl ?_
                refine k_bipush (v := (-4 : Int32)) C (dk dX10_late_1 21 rfl) (by decide) ?_
                refine kl_J (P := (fun J138 => ∀ (y17 : Int32) (y18 : Int32) (s19 : St), J138 y17 y18 s19 = some (v, σe) → WK 138 [(0, .ref (g.2.2 0)), (3, .long x10), (5, .int y17), (6, .int y18)] [] s19)) h (fun y17 y18 s19 h => ?_) (fun J138 hJ138 h => ?_)
                ·
                  unfold mX10_late_138 at h
                  refine k_iinc (lv' := [(6, .int (y18 + 1)), (0, .ref (g.2.2 0)), (3, .long x10), (5, .int y17)]) C (dk dX10_late_2 8 rfl) (j := 3) rfl rfl (by decide) rfl ?_
                  refine k_goto (tgt := 78) C (dk dX10_late_2 9 rfl) (by decide) ?_
                  refine k_sub C [1, 2, 3, 0] rfl ?_
                  exact hJ78 _ _ _ h
                ·
                  refine k_icmp_eq (tgt := 138) C (dk dX10_late_1 22 rfl) (by decide) h (fun h => ?_) (fun h => ?_)
                  ·
                    refine k_sub C [1, 2, 3, 4] rfl ?_
                    exact hJ138 _ _ _ h
                  ·
                    refine k_lload_n C (dk dX10_late_1 23 rfl) rfl 2 rfl ?_
                    refine k_aload_n C (dk dX10_late_1 24 rfl) rfl 1 rfl ?_
                    refine k_getR (q := 28) (D := RX10) (T := TX10) (N := 9) (ci := 5) (k := 4) C iCX10 rfl (by decide) rfl (by decide) (iW0 _ (List.mem_of_getElem? (i := 22) rfl)) rfl (dk dX10_late_1 25 rfl) ?_
                    refine k_iload C (dk dX10_late_1 26 rfl) 0 rfl ?_
                    refine cl2_k h (fun x21 s20 hc h => ?_)
                    refine k_cv (T := TX0) (N := 9) (ci := 0) (ob := 28) (As := [.int x16]) (st := [.long x10]) C (qX0_nearOf l g hg hc) (iW25 _ (List.mem_of_getElem? (i := 11) rfl)) (iW25 _ (List.mem_of_getElem? (i := 12) rfl)) (iW25 _ (List.mem_of_getElem? (i := 13) rfl)) (iW0 _ (List.mem_of_getElem? (i := 21) rfl)) (iW25 _ (List.mem_of_getElem? (i := 14) rfl)) rfl rfl hdX0_nearOf (by decide) rfl (by decide) rfl rfl rfl (Nat.le_of_ble_eq_true rfl) (dk dX10_late_1 27 rfl) ?_
                    refine k_ldc2 (v := (-1 : Int64)) C (dk dX10_late_1 28 rfl) (iW25 _ (List.mem_of_getElem? (i := 8) rfl)) ?_
                    refine k_lxor C (dk dX10_late_1 29 rfl) ?_
                    refine k_land C (dk dX10_late_1 30 rfl) ?_
                    refine k_lconst (v := (0 : Int64)) C (dk dX10_late_1 31 rfl) (by decide) ?_
                    refine k_lcmp C (dk dX10_late_2 0 rfl) ?_
                    refine k_if_ne (tgt := 138) C (dk dX10_late_2 1 rfl) (by decide) h (fun h => ?_) (fun h => ?_)
                    ·
                      refine k_sub C [1, 2, 3, 4] rfl ?_
                      exact hJ138 _ _ _ h
                    ·
                      refine k_iload C (dk dX10_late_2 2 rfl) 3 rfl ?_
                      refine k_iconst (v := (1 : Int32)) C (dk dX10_late_2 3 rfl) (by decide) ?_
                      refine k_iload C (dk dX10_late_2 4 rfl) 4 rfl ?_
                      refine k_ishl C (dk dX10_late_2 5 rfl) ?_
                      refine k_ior C (dk dX10_late_2 6 rfl) ?_
                      refine nmI h (fun x22 h => ?_)
                      refine k_istore (lv' := [(5, .int x22), (7, .int x16), (0, .ref (g.2.2 0)), (3, .long x10), (6, .int y12)]) C (dk dX10_late_2 7 rfl) (by decide) rfl ?_
                      refine k_sub C [2, 3, 0, 4] rfl ?_
                      exact hJ138 _ _ _ h
            ·
              refine k_sub C [3, 2, 1, 0] rfl ?_
              exact hJ78 _ _ _ h
          ·
            refine k_bipush (v := (-3 : Int32)) C (dk dX10_late_0 21 rfl) (by decide) ?_
            exact k_iret E (dk dX10_late_0 22 rfl) h
      ·
        refine k_iconst (v := (-1 : Int32)) C (dk dX10_late_0 9 rfl) (by decide) ?_
        exact k_iret E (dk dX10_late_0 10 rfl) h
set_option maxRecDepth 100000 in
set_option maxHeartbeats 4000000 in
theorem qX10_refusalOfTrack (l : Launch) (g : G) (hg : gOK g) {a1 : Int32}  {s0 σe : St} {v : Int32} (h : mX10_refusalOfTrack a1 s0 = some (v, σe)) : Mc l g yX10_refusalOfTrack cX10_refusalOfTrack 3 (some .int) { frames := 3, cells := 0, slots := 0, locals := 64 } [.ref (g.2.2 0), .int a1] s0 (some (.int v)) σe := by
  refine k_enter hg pnRX10 rfl (Nat.le_of_ble_eq_true rfl) ?_
  intro WK E
  have C := kX_y E
  unfold mX10_refusalOfTrack at h
  show WK 0 [(0, .ref (g.2.2 0)), (1, .int a1)] [] s0
  refine k_aload_n C (dk dX10_refusalOfTrack_0 0 rfl) rfl 0 rfl ?_
  refine k_iload_n C (dk dX10_refusalOfTrack_0 1 rfl) rfl 1 rfl ?_
  refine cl2_k h (fun x2 s1 hc h => ?_)
  refine k_cv (T := TX10) (N := 9) (ci := 5) (ob := 0) (As := [.int a1]) (st := []) C (qX10_refusalOfRow l g hg hc) (iW3 _ (List.mem_of_getElem? (i := 26) rfl)) (iW3 _ (List.mem_of_getElem? (i := 27) rfl)) (iW3 _ (List.mem_of_getElem? (i := 28) rfl)) (iW0 _ (List.mem_of_getElem? (i := 2) rfl)) (iW3 _ (List.mem_of_getElem? (i := 29) rfl)) rfl rfl hdX10_refusalOfRow (by decide) rfl (by decide) rfl rfl rfl (Nat.le_of_ble_eq_true rfl) (dk dX10_refusalOfTrack_0 2 rfl) ?_
  refine k_istore_n (lv' := [(2, .int x2), (0, .ref (g.2.2 0)), (1, .int a1)]) C (dk dX10_refusalOfTrack_0 3 rfl) rfl (by decide) rfl ?_
  refine k_iload_n C (dk dX10_refusalOfTrack_0 4 rfl) rfl 0 rfl ?_
  refine k_if_eq (tgt := 12) C (dk dX10_refusalOfTrack_0 5 rfl) (by decide) h (fun h => ?_) (fun h => ?_)
  ·
    refine k_aload_n C (dk dX10_refusalOfTrack_0 8 rfl) rfl 1 rfl ?_
    refine k_iload_n C (dk dX10_refusalOfTrack_0 9 rfl) rfl 2 rfl ?_
    refine cl2_k h (fun n4 s3 hc h => ?_)
    refine k_cv (T := TX10) (N := 9) (ci := 5) (ob := 0) (As := [.int a1]) (st := []) C (qX10_shelfAt l g hg hc) (iW4 _ (List.mem_of_getElem? (i := 8) rfl)) (iW4 _ (List.mem_of_getElem? (i := 9) rfl)) (iW4 _ (List.mem_of_getElem? (i := 10) rfl)) (iW0 _ (List.mem_of_getElem? (i := 2) rfl)) (iW4 _ (List.mem_of_getElem? (i := 11) rfl)) rfl rfl hdX10_shelfAt (by decide) rfl (by decide) rfl rfl rfl (Nat.le_of_ble_eq_true rfl) (dk dX10_refusalOfTrack_0 10 rfl) ?_
    have hn4 : kd n4 = 3 := rX10_shelfAt hc
    refine cl2_k h (fun x6 s5 hc h => ?_)
    refine k_cs (As := [.ref (g.2.2 n4)]) (st := []) C (qX9_isOfCells l g hg hn4 hc) (iW25 _ (List.mem_of_getElem? (i := 28) rfl)) (iW25 _ (List.mem_of_getElem? (i := 29) rfl)) (iW0 _ (List.mem_of_getElem? (i := 25) rfl)) (iW26 _ (List.mem_of_getElem? (i := 0) rfl)) rfl rfl hdX9_isOfCells (by decide) rfl rfl (Nat.le_of_ble_eq_true rfl) (dk dX10_refusalOfTrack_0 11 rfl) ?_
    refine k_if_eq (tgt := 27) C (dk dX10_refusalOfTrack_0 12 rfl) (by decide) h (fun h => ?_) (fun h => ?_)
    ·
      refine k_bipush (v := (-13 : Int32)) C (dk dX10_refusalOfTrack_0 15 rfl) (by decide) ?_
      exact k_iret E (dk dX10_refusalOfTrack_0 16 rfl) h
    ·
      refine k_iconst (v := (0 : Int32)) C (dk dX10_refusalOfTrack_0 13 rfl) (by decide) ?_
      refine k_goto (tgt := 29) C (dk dX10_refusalOfTrack_0 14 rfl) (by decide) ?_
      exact k_iret E (dk dX10_refusalOfTrack_0 16 rfl) h
  ·
    refine k_iload_n C (dk dX10_refusalOfTrack_0 6 rfl) rfl 0 rfl ?_
    exact k_iret E (dk dX10_refusalOfTrack_0 7 rfl) h
set_option maxRecDepth 100000 in
set_option maxHeartbeats 4000000 in
theorem qX10_hisWay (l : Launch) (g : G) (hg : gOK g) {a1 : Int32} {a2 : Int32}  {s0 σe : St} {v : Int64} (h : mX10_hisWay a1 a2 s0 = some (v, σe)) : Mc l g yX10_hisWay cX10_hisWay 6 (some .long) { frames := 4, cells := 0, slots := 0, locals := 93 } [.ref (g.2.2 0), .int a1, .int a2] s0 (some (.long v)) σe := by
  refine k_enter hg pnRX10 rfl (Nat.le_of_ble_eq_true rfl) ?_
  intro WK E
  have C := kX_y E
  unfold mX10_hisWay at h
  show WK 0 [(0, .ref (g.2.2 0)), (1, .int a1), (2, .int a2)] [] s0
  refine k_iload_n C (dk dX10_hisWay_0 0 rfl) rfl 2 rfl ?_
  refine cl2_k h (fun x2 s1 hc h => ?_)
  refine k_cs (As := [.int a2]) (st := []) C (qX10_isEither l g hg hc) (iW12 _ (List.mem_of_getElem? (i := 24) rfl)) (iW6 _ (List.mem_of_getElem? (i := 22) rfl)) (iW0 _ (List.mem_of_getElem? (i := 2) rfl)) (iW6 _ (List.mem_of_getElem? (i := 23) rfl)) rfl rfl hdX10_isEither (by decide) rfl rfl (Nat.le_of_ble_eq_true rfl) (dk dX10_hisWay_0 1 rfl) ?_
  refine kl_J (P := (fun J16 => ∀ (y3 : Int32) (s4 : St), J16 y3 s4 = some (v, σe) → WK 16 [(0, .ref (g.2.2 0)), (1, .int a1), (2, .int a2)] [.int y3] s4)) h (fun y3 s4 h => ?_) (fun J16 hJ16 h => ?_)
  ·
    unfold mX10_hisWay_16 at h
    refine k_istore_n (lv' := [(3, .int y3), (0, .ref (g.2.2 0)), (1, .int a1), (2, .int a2)]) C (dk dX10_hisWay_0 8 rfl) rfl (by decide) rfl ?_
    refine k_iload_n C (dk dX10_hisWay_0 9 rfl) rfl 0 rfl ?_
    refine k_if_eq (tgt := 26) C (dk dX10_hisWay_0 10 rfl) (by decide) h (fun h => ?_) (fun h => ?_)
    ·
      refine k_aload_n C (dk dX10_hisWay_0 14 rfl) rfl 1 rfl ?_
      refine k_getR (q := 28) (D := RX10) (T := TX10) (N := 9) (ci := 5) (k := 4) C iCX10 rfl (by decide) rfl (by decide) (iW0 _ (List.mem_of_getElem? (i := 22) rfl)) rfl (dk dX10_hisWay_0 15 rfl) ?_
      refine k_aload_n C (dk dX10_hisWay_0 16 rfl) rfl 1 rfl ?_
      refine k_getR (q := 1) (D := RX10) (T := TX10) (N := 9) (ci := 5) (k := 0) C iCX10 rfl (by decide) rfl (by decide) (iW0 _ (List.mem_of_getElem? (i := 16) rfl)) rfl (dk dX10_hisWay_0 17 rfl) ?_
      refine cl1_k h (fun s5 hc h => ?_)
      refine k_cv (T := TX0) (N := 9) (ci := 0) (ob := 28) (As := [.ref (g.2.2 1)]) (st := []) C (qX0_lay l g hg rfl hc) (iW15 _ (List.mem_of_getElem? (i := 23) rfl)) (iW15 _ (List.mem_of_getElem? (i := 24) rfl)) (iW15 _ (List.mem_of_getElem? (i := 25) rfl)) (iW0 _ (List.mem_of_getElem? (i := 21) rfl)) (iW15 _ (List.mem_of_getElem? (i := 26) rfl)) rfl rfl hdX0_lay (by decide) rfl (by decide) rfl rfl rfl (Nat.le_of_ble_eq_true rfl) (dk dX10_hisWay_0 18 rfl) ?_
      refine k_aload_n C (dk dX10_hisWay_0 19 rfl) rfl 1 rfl ?_
      refine k_getR (q := 38) (D := RX10) (T := TX10) (N := 9) (ci := 5) (k := 5) C iCX10 rfl (by decide) rfl (by decide) (iW0 _ (List.mem_of_getElem? (i := 26) rfl)) rfl (dk dX10_hisWay_0 20 rfl) ?_
      refine k_aload_n C (dk dX10_hisWay_0 21 rfl) rfl 1 rfl ?_
      refine k_iload_n C (dk dX10_hisWay_0 22 rfl) rfl 2 rfl ?_
      refine cl2_k h (fun n7 s6 hc h => ?_)
      refine k_cv (T := TX10) (N := 9) (ci := 5) (ob := 0) (As := [.int a1]) (st := [.ref (g.2.2 38)]) C (qX10_shelfAt l g hg hc) (iW4 _ (List.mem_of_getElem? (i := 8) rfl)) (iW4 _ (List.mem_of_getElem? (i := 9) rfl)) (iW4 _ (List.mem_of_getElem? (i := 10) rfl)) (iW0 _ (List.mem_of_getElem? (i := 2) rfl)) (iW4 _ (List.mem_of_getElem? (i := 11) rfl)) rfl rfl hdX10_shelfAt (by decide) rfl (by decide) rfl rfl rfl (Nat.le_of_ble_eq_true rfl) (dk dX10_hisWay_0 23 rfl) ?_
      have hn7 : kd n7 = 3 := rX10_shelfAt hc
      refine k_aload_n C (dk dX10_hisWay_0 24 rfl) rfl 1 rfl ?_
      refine k_getR (q := 28) (D := RX10) (T := TX10) (N := 9) (ci := 5) (k := 4) C iCX10 rfl (by decide) rfl (by decide) (iW0 _ (List.mem_of_getElem? (i := 22) rfl)) rfl (dk dX10_hisWay_0 25 rfl) ?_
      refine k_aload_n C (dk dX10_hisWay_0 26 rfl) rfl 1 rfl ?_
      refine k_getR (q := 1) (D := RX10) (T := TX10) (N := 9) (ci := 5) (k := 0) C iCX10 rfl (by decide) rfl (by decide) (iW0 _ (List.mem_of_getElem? (i := 16) rfl)) rfl (dk dX10_hisWay_0 27 rfl) ?_
      refine cl2_k h (fun x9 s8 hc h => ?_)
      refine k_cv (T := TX3) (N := 10) (ci := 1) (ob := 1) (As := []) (st := [.ref (g.2.2 28), .ref (g.2.2 n7), .ref (g.2.2 38)]) C (qX3_openCells l g hg rfl hc) (iW14 _ (List.mem_of_getElem? (i := 10) rfl)) (iW14 _ (List.mem_of_getElem? (i := 11) rfl)) (iW14 _ (List.mem_of_getElem? (i := 12) rfl)) (iW0 _ (List.mem_of_getElem? (i := 15) rfl)) (iW14 _ (List.mem_of_getElem? (i := 13) rfl)) rfl rfl hdX3_openCells (by decide) rfl (by decide) rfl rfl rfl (Nat.le_of_ble_eq_true rfl) (dk dX10_hisWay_0 28 rfl) ?_
      refine cl2_k h (fun x11 s10 hc h => ?_)
      refine k_cv (T := TX9) (N := 3) (ci := 4) (ob := 38) (As := [.ref (g.2.2 n7), .ref (g.2.2 28), .long x9]) (st := []) C (qX9_follow l g hg hn7 hc) (iW26 _ (List.mem_of_getElem? (i := 3) rfl)) (iW26 _ (List.mem_of_getElem? (i := 4) rfl)) (iW26 _ (List.mem_of_getElem? (i := 5) rfl)) (iW0 _ (List.mem_of_getElem? (i := 25) rfl)) (iW26 _ (List.mem_of_getElem? (i := 6) rfl)) rfl rfl hdX9_follow (by decide) rfl (by decide) rfl rfl rfl (Nat.le_of_ble_eq_true rfl) (dk dX10_hisWay_0 29 rfl) ?_
      refine k_lstore (lv' := [(4, .long x11), (3, .int y3), (0, .ref (g.2.2 0)), (1, .int a1), (2, .int a2)]) C (dk dX10_hisWay_0 30 rfl) (by decide) rfl ?_
      refine k_iload_n C (dk dX10_hisWay_0 31 rfl) rfl 4 rfl ?_
      refine k_if_ne (tgt := 71) C (dk dX10_hisWay_1 0 rfl) (by decide) h (fun h => ?_) (fun h => ?_)
      ·
        refine k_lload C (dk dX10_hisWay_1 3 rfl) 0 rfl ?_
        refine cl2_k h (fun x13 s12 hc h => ?_)
        refine k_cs (As := [.long x11]) (st := []) C (qJ13_bitCount_95d88 l g hg hc) (iW18 _ (List.mem_of_getElem? (i := 14) rfl)) (iW16 _ (List.mem_of_getElem? (i := 20) rfl)) (iW16 _ (List.mem_of_getElem? (i := 21) rfl)) (iW16 _ (List.mem_of_getElem? (i := 22) rfl)) rfl rfl hdJ13_bitCount_95d88 (by decide) rfl rfl (Nat.le_of_ble_eq_true rfl) (dk dX10_hisWay_1 4 rfl) ?_
        refine k_i2l C (dk dX10_hisWay_1 5 rfl) ?_
        exact k_lret E (dk dX10_hisWay_1 6 rfl) h
      ·
        refine k_lload C (dk dX10_hisWay_1 1 rfl) 0 rfl ?_
        refine k_goto (tgt := 77) C (dk dX10_hisWay_1 2 rfl) (by decide) ?_
        exact k_lret E (dk dX10_hisWay_1 6 rfl) h
    ·
      refine k_iload_n C (dk dX10_hisWay_0 11 rfl) rfl 0 rfl ?_
      refine cl2_k h (fun x15 s14 hc h => ?_)
      refine k_cs (As := [.int y3]) (st := []) C (qX10_ofLongs l g hg hc) (iW23 _ (List.mem_of_getElem? (i := 18) rfl)) (iW23 _ (List.mem_of_getElem? (i := 19) rfl)) (iW0 _ (List.mem_of_getElem? (i := 2) rfl)) (iW23 _ (List.mem_of_getElem? (i := 20) rfl)) rfl rfl hdX10_ofLongs (by decide) rfl rfl (Nat.le_of_ble_eq_true rfl) (dk dX10_hisWay_0 12 rfl) ?_
      exact k_lret E (dk dX10_hisWay_0 13 rfl) h
  ·
    refine k_if_eq (tgt := 15) C (dk dX10_hisWay_0 2 rfl) (by decide) h (fun h => ?_) (fun h => ?_)
    ·
      refine k_iconst (v := (-1 : Int32)) C (dk dX10_hisWay_0 7 rfl) (by decide) ?_
      exact hJ16 _ _ h
    ·
      refine k_aload_n C (dk dX10_hisWay_0 3 rfl) rfl 0 rfl ?_
      refine k_iload_n C (dk dX10_hisWay_0 4 rfl) rfl 1 rfl ?_
      refine cl2_k h (fun x17 s16 hc h => ?_)
      refine k_cv (T := TX10) (N := 9) (ci := 5) (ob := 0) (As := [.int a1]) (st := []) C (qX10_refusalOfTrack l g hg hc) (iW25 _ (List.mem_of_getElem? (i := 24) rfl)) (iW25 _ (List.mem_of_getElem? (i := 25) rfl)) (iW25 _ (List.mem_of_getElem? (i := 26) rfl)) (iW0 _ (List.mem_of_getElem? (i := 2) rfl)) (iW25 _ (List.mem_of_getElem? (i := 27) rfl)) rfl rfl hdX10_refusalOfTrack (by decide) rfl (by decide) rfl rfl rfl (Nat.le_of_ble_eq_true rfl) (dk dX10_hisWay_0 5 rfl) ?_
      refine k_goto (tgt := 16) C (dk dX10_hisWay_0 6 rfl) (by decide) ?_
      exact hJ16 _ _ h
set_option maxRecDepth 100000 in
set_option maxHeartbeats 4000000 in
theorem qX10_letter (l : Launch) (g : G) (hg : gOK g) {a1 : Int32}  {s0 σe : St} {v : Int32} (h : mX10_letter a1 s0 = some (v, σe)) : Mc l g yX10_letter cX10_letter 5 (some .int) { frames := 4, cells := 0, slots := 0, locals := 98 } [.ref (g.2.2 0), .int a1] s0 (some (.int v)) σe := by
  refine k_enter hg pnRX10 rfl (Nat.le_of_ble_eq_true rfl) ?_
  intro WK E
  have C := kX_y E
  unfold mX10_letter at h
  show WK 0 [(0, .ref (g.2.2 0)), (1, .int a1)] [] s0
  refine k_aload_n C (dk dX10_letter_0 0 rfl) rfl 0 rfl ?_
  refine k_iload_n C (dk dX10_letter_0 1 rfl) rfl 1 rfl ?_
  refine cl2_k h (fun x2 s1 hc h => ?_)
  refine k_cv (T := TX10) (N := 9) (ci := 5) (ob := 0) (As := [.int a1]) (st := []) C (qX10_refusalOfTrack l g hg hc) (iW25 _ (List.mem_of_getElem? (i := 24) rfl)) (iW25 _ (List.mem_of_getElem? (i := 25) rfl)) (iW25 _ (List.mem_of_getElem? (i := 26) rfl)) (iW0 _ (List.mem_of_getElem? (i := 2) rfl)) (iW25 _ (List.mem_of_getElem? (i := 27) rfl)) rfl rfl hdX10_refusalOfTrack (by decide) rfl (by decide) rfl rfl rfl (Nat.le_of_ble_eq_true rfl) (dk dX10_letter_0 2 rfl) ?_
  refine k_istore_n (lv' := [(2, .int x2), (0, .ref (g.2.2 0)), (1, .int a1)]) C (dk dX10_letter_0 3 rfl) rfl (by decide) rfl ?_
  refine k_iload_n C (dk dX10_letter_0 4 rfl) rfl 0 rfl ?_
  refine k_if_eq (tgt := 12) C (dk dX10_letter_0 5 rfl) (by decide) h (fun h => ?_) (fun h => ?_)
  ·
    refine k_aload_n C (dk dX10_letter_0 8 rfl) rfl 1 rfl ?_
    refine k_getR (q := 28) (D := RX10) (T := TX10) (N := 9) (ci := 5) (k := 4) C iCX10 rfl (by decide) rfl (by decide) (iW0 _ (List.mem_of_getElem? (i := 22) rfl)) rfl (dk dX10_letter_0 9 rfl) ?_
    refine k_aload_n C (dk dX10_letter_0 10 rfl) rfl 1 rfl ?_
    refine k_getR (q := 1) (D := RX10) (T := TX10) (N := 9) (ci := 5) (k := 0) C iCX10 rfl (by decide) rfl (by decide) (iW0 _ (List.mem_of_getElem? (i := 16) rfl)) rfl (dk dX10_letter_0 11 rfl) ?_
    refine cl1_k h (fun s3 hc h => ?_)
    refine k_cv (T := TX0) (N := 9) (ci := 0) (ob := 28) (As := [.ref (g.2.2 1)]) (st := []) C (qX0_lay l g hg rfl hc) (iW15 _ (List.mem_of_getElem? (i := 23) rfl)) (iW15 _ (List.mem_of_getElem? (i := 24) rfl)) (iW15 _ (List.mem_of_getElem? (i := 25) rfl)) (iW0 _ (List.mem_of_getElem? (i := 21) rfl)) (iW15 _ (List.mem_of_getElem? (i := 26) rfl)) rfl rfl hdX0_lay (by decide) rfl (by decide) rfl rfl rfl (Nat.le_of_ble_eq_true rfl) (dk dX10_letter_0 12 rfl) ?_
    refine k_aload_n C (dk dX10_letter_0 13 rfl) rfl 1 rfl ?_
    refine k_getR (q := 38) (D := RX10) (T := TX10) (N := 9) (ci := 5) (k := 5) C iCX10 rfl (by decide) rfl (by decide) (iW0 _ (List.mem_of_getElem? (i := 26) rfl)) rfl (dk dX10_letter_0 14 rfl) ?_
    refine k_aload_n C (dk dX10_letter_0 15 rfl) rfl 1 rfl ?_
    refine k_iload_n C (dk dX10_letter_0 16 rfl) rfl 2 rfl ?_
    refine cl2_k h (fun n5 s4 hc h => ?_)
    refine k_cv (T := TX10) (N := 9) (ci := 5) (ob := 0) (As := [.int a1]) (st := [.ref (g.2.2 38)]) C (qX10_shelfAt l g hg hc) (iW4 _ (List.mem_of_getElem? (i := 8) rfl)) (iW4 _ (List.mem_of_getElem? (i := 9) rfl)) (iW4 _ (List.mem_of_getElem? (i := 10) rfl)) (iW0 _ (List.mem_of_getElem? (i := 2) rfl)) (iW4 _ (List.mem_of_getElem? (i := 11) rfl)) rfl rfl hdX10_shelfAt (by decide) rfl (by decide) rfl rfl rfl (Nat.le_of_ble_eq_true rfl) (dk dX10_letter_0 17 rfl) ?_
    have hn5 : kd n5 = 3 := rX10_shelfAt hc
    refine k_aload_n C (dk dX10_letter_0 18 rfl) rfl 1 rfl ?_
    refine k_getR (q := 28) (D := RX10) (T := TX10) (N := 9) (ci := 5) (k := 4) C iCX10 rfl (by decide) rfl (by decide) (iW0 _ (List.mem_of_getElem? (i := 22) rfl)) rfl (dk dX10_letter_0 19 rfl) ?_
    refine k_aload_n C (dk dX10_letter_0 20 rfl) rfl 1 rfl ?_
    refine k_getR (q := 1) (D := RX10) (T := TX10) (N := 9) (ci := 5) (k := 0) C iCX10 rfl (by decide) rfl (by decide) (iW0 _ (List.mem_of_getElem? (i := 16) rfl)) rfl (dk dX10_letter_0 21 rfl) ?_
    refine cl2_k h (fun x7 s6 hc h => ?_)
    refine k_cv (T := TX3) (N := 10) (ci := 1) (ob := 1) (As := []) (st := [.ref (g.2.2 28), .ref (g.2.2 n5), .ref (g.2.2 38)]) C (qX3_openCells l g hg rfl hc) (iW14 _ (List.mem_of_getElem? (i := 10) rfl)) (iW14 _ (List.mem_of_getElem? (i := 11) rfl)) (iW14 _ (List.mem_of_getElem? (i := 12) rfl)) (iW0 _ (List.mem_of_getElem? (i := 15) rfl)) (iW14 _ (List.mem_of_getElem? (i := 13) rfl)) rfl rfl hdX3_openCells (by decide) rfl (by decide) rfl rfl rfl (Nat.le_of_ble_eq_true rfl) (dk dX10_letter_0 22 rfl) ?_
    refine cl2_k h (fun x9 s8 hc h => ?_)
    refine k_cv (T := TX9) (N := 3) (ci := 4) (ob := 38) (As := [.ref (g.2.2 n5), .ref (g.2.2 28), .long x7]) (st := []) C (qX9_follow l g hg hn5 hc) (iW26 _ (List.mem_of_getElem? (i := 3) rfl)) (iW26 _ (List.mem_of_getElem? (i := 4) rfl)) (iW26 _ (List.mem_of_getElem? (i := 5) rfl)) (iW0 _ (List.mem_of_getElem? (i := 25) rfl)) (iW26 _ (List.mem_of_getElem? (i := 6) rfl)) rfl rfl hdX9_follow (by decide) rfl (by decide) rfl rfl rfl (Nat.le_of_ble_eq_true rfl) (dk dX10_letter_0 23 rfl) ?_
    refine k_lstore_n (lv' := [(3, .long x9), (2, .int x2), (0, .ref (g.2.2 0)), (1, .int a1)]) C (dk dX10_letter_0 24 rfl) rfl (by decide) rfl ?_
    refine k_lload_n C (dk dX10_letter_0 25 rfl) rfl 0 rfl ?_
    refine k_lconst (v := (0 : Int64)) C (dk dX10_letter_0 26 rfl) (by decide) ?_
    refine k_lcmp C (dk dX10_letter_0 27 rfl) ?_
    refine k_if_ne (tgt := 58) C (dk dX10_letter_0 28 rfl) (by decide) h (fun h => ?_) (fun h => ?_)
    ·
      refine k_aload_n C (dk dX10_letter_0 31 rfl) rfl 2 rfl ?_
      refine k_getR (q := 38) (D := RX10) (T := TX10) (N := 9) (ci := 5) (k := 5) C iCX10 rfl (by decide) rfl (by decide) (iW0 _ (List.mem_of_getElem? (i := 26) rfl)) rfl (dk dX10_letter_1 0 rfl) ?_
      refine k_aload_n C (dk dX10_letter_1 1 rfl) rfl 2 rfl ?_
      refine k_iload_n C (dk dX10_letter_1 2 rfl) rfl 3 rfl ?_
      refine cl2_k h (fun n11 s10 hc h => ?_)
      refine k_cv (T := TX10) (N := 9) (ci := 5) (ob := 0) (As := [.int a1]) (st := [.ref (g.2.2 38)]) C (qX10_shelfAt l g hg hc) (iW4 _ (List.mem_of_getElem? (i := 8) rfl)) (iW4 _ (List.mem_of_getElem? (i := 9) rfl)) (iW4 _ (List.mem_of_getElem? (i := 10) rfl)) (iW0 _ (List.mem_of_getElem? (i := 2) rfl)) (iW4 _ (List.mem_of_getElem? (i := 11) rfl)) rfl rfl hdX10_shelfAt (by decide) rfl (by decide) rfl rfl rfl (Nat.le_of_ble_eq_true rfl) (dk dX10_letter_1 3 rfl) ?_
      have hn11 : kd n11 = 3 := rX10_shelfAt hc
      refine k_aload_n C (dk dX10_letter_1 4 rfl) rfl 2 rfl ?_
      refine k_getR (q := 28) (D := RX10) (T := TX10) (N := 9) (ci := 5) (k := 4) C iCX10 rfl (by decide) rfl (by decide) (iW0 _ (List.mem_of_getElem? (i := 22) rfl)) rfl (dk dX10_letter_1 5 rfl) ?_
      refine k_aload_n C (dk dX10_letter_1 6 rfl) rfl 2 rfl ?_
      refine k_getR (q := 1) (D := RX10) (T := TX10) (N := 9) (ci := 5) (k := 0) C iCX10 rfl (by decide) rfl (by decide) (iW0 _ (List.mem_of_getElem? (i := 16) rfl)) rfl (dk dX10_letter_1 7 rfl) ?_
      refine cl2_k h (fun x13 s12 hc h => ?_)
      refine k_cv (T := TX3) (N := 10) (ci := 1) (ob := 1) (As := []) (st := [.ref (g.2.2 28), .ref (g.2.2 n11), .ref (g.2.2 38)]) C (qX3_openCells l g hg rfl hc) (iW14 _ (List.mem_of_getElem? (i := 10) rfl)) (iW14 _ (List.mem_of_getElem? (i := 11) rfl)) (iW14 _ (List.mem_of_getElem? (i := 12) rfl)) (iW0 _ (List.mem_of_getElem? (i := 15) rfl)) (iW14 _ (List.mem_of_getElem? (i := 13) rfl)) rfl rfl hdX3_openCells (by decide) rfl (by decide) rfl rfl rfl (Nat.le_of_ble_eq_true rfl) (dk dX10_letter_1 8 rfl) ?_
      refine cl2_k h (fun x15 s14 hc h => ?_)
      refine k_cv (T := TX9) (N := 3) (ci := 4) (ob := 38) (As := [.ref (g.2.2 n11), .ref (g.2.2 28), .long x13]) (st := []) C (qX9_bestDay l g hg hn11 hc) (iW27 _ (List.mem_of_getElem? (i := 2) rfl)) (iW27 _ (List.mem_of_getElem? (i := 3) rfl)) (iW27 _ (List.mem_of_getElem? (i := 4) rfl)) (iW0 _ (List.mem_of_getElem? (i := 25) rfl)) (iW27 _ (List.mem_of_getElem? (i := 5) rfl)) rfl rfl hdX9_bestDay (by decide) rfl (by decide) rfl rfl rfl (Nat.le_of_ble_eq_true rfl) (dk dX10_letter_1 9 rfl) ?_
      exact k_iret E (dk dX10_letter_1 10 rfl) h
    ·
      refine k_bipush (v := (-4 : Int32)) C (dk dX10_letter_0 29 rfl) (by decide) ?_
      refine k_goto (tgt := 81) C (dk dX10_letter_0 30 rfl) (by decide) ?_
      exact k_iret E (dk dX10_letter_1 10 rfl) h
  ·
    refine k_iload_n C (dk dX10_letter_0 6 rfl) rfl 0 rfl ?_
    exact k_iret E (dk dX10_letter_0 7 rfl) h
set_option maxRecDepth 100000 in
set_option maxHeartbeats 4000000 in
theorem qX10_third (l : Launch) (g : G) (hg : gOK g) {a1 : Int32}  {s0 σe : St} {v : Int32} (h : mX10_third a1 s0 = some (v, σe)) : Mc l g yX10_third cX10_third 4 (some .int) { frames := 4, cells := 0, slots := 0, locals := 90 } [.ref (g.2.2 0), .int a1] s0 (some (.int v)) σe := by
  refine k_enter hg pnRX10 rfl (Nat.le_of_ble_eq_true rfl) ?_
  intro WK E
  have C := kX_y E
  unfold mX10_third at h
  show WK 0 [(0, .ref (g.2.2 0)), (1, .int a1)] [] s0
  refine k_iload_n C (dk dX10_third_0 0 rfl) rfl 1 rfl ?_
  refine cl2_k h (fun x2 s1 hc h => ?_)
  refine k_cs (As := [.int a1]) (st := []) C (qX10_isEither l g hg hc) (iW12 _ (List.mem_of_getElem? (i := 24) rfl)) (iW6 _ (List.mem_of_getElem? (i := 22) rfl)) (iW0 _ (List.mem_of_getElem? (i := 2) rfl)) (iW6 _ (List.mem_of_getElem? (i := 23) rfl)) rfl rfl hdX10_isEither (by decide) rfl rfl (Nat.le_of_ble_eq_true rfl) (dk dX10_third_0 1 rfl) ?_
  refine k_if_ne (tgt := 9) C (dk dX10_third_0 2 rfl) (by decide) h (fun h => ?_) (fun h => ?_)
  ·
    refine k_aload_n C (dk dX10_third_0 5 rfl) rfl 0 rfl ?_
    refine k_getR (q := 1) (D := RX10) (T := TX10) (N := 9) (ci := 5) (k := 0) C iCX10 rfl (by decide) rfl (by decide) (iW0 _ (List.mem_of_getElem? (i := 16) rfl)) rfl (dk dX10_third_0 6 rfl) ?_
    refine cl2_k h (fun x4 s3 hc h => ?_)
    refine k_cv (T := TX3) (N := 10) (ci := 1) (ob := 1) (As := []) (st := []) C (qX3_bothStand l g hg rfl hc) (iW19 _ (List.mem_of_getElem? (i := 19) rfl)) (iW19 _ (List.mem_of_getElem? (i := 20) rfl)) (iW19 _ (List.mem_of_getElem? (i := 21) rfl)) (iW0 _ (List.mem_of_getElem? (i := 15) rfl)) (iW19 _ (List.mem_of_getElem? (i := 22) rfl)) rfl rfl hdX3_bothStand (by decide) rfl (by decide) rfl rfl rfl (Nat.le_of_ble_eq_true rfl) (dk dX10_third_0 7 rfl) ?_
    refine k_if_ne (tgt := 22) C (dk dX10_third_0 8 rfl) (by decide) h (fun h => ?_) (fun h => ?_)
    ·
      refine k_aload_n C (dk dX10_third_0 11 rfl) rfl 0 rfl ?_
      refine k_getR (q := 28) (D := RX10) (T := TX10) (N := 9) (ci := 5) (k := 4) C iCX10 rfl (by decide) rfl (by decide) (iW0 _ (List.mem_of_getElem? (i := 22) rfl)) rfl (dk dX10_third_0 12 rfl) ?_
      refine k_aload_n C (dk dX10_third_0 13 rfl) rfl 0 rfl ?_
      refine k_getR (q := 1) (D := RX10) (T := TX10) (N := 9) (ci := 5) (k := 0) C iCX10 rfl (by decide) rfl (by decide) (iW0 _ (List.mem_of_getElem? (i := 16) rfl)) rfl (dk dX10_third_0 14 rfl) ?_
      refine cl1_k h (fun s5 hc h => ?_)
      refine k_cv (T := TX0) (N := 9) (ci := 0) (ob := 28) (As := [.ref (g.2.2 1)]) (st := []) C (qX0_lay l g hg rfl hc) (iW15 _ (List.mem_of_getElem? (i := 23) rfl)) (iW15 _ (List.mem_of_getElem? (i := 24) rfl)) (iW15 _ (List.mem_of_getElem? (i := 25) rfl)) (iW0 _ (List.mem_of_getElem? (i := 21) rfl)) (iW15 _ (List.mem_of_getElem? (i := 26) rfl)) rfl rfl hdX0_lay (by decide) rfl (by decide) rfl rfl rfl (Nat.le_of_ble_eq_true rfl) (dk dX10_third_0 15 rfl) ?_
      refine k_aload_n C (dk dX10_third_0 16 rfl) rfl 0 rfl ?_
      refine k_getR (q := 28) (D := RX10) (T := TX10) (N := 9) (ci := 5) (k := 4) C iCX10 rfl (by decide) rfl (by decide) (iW0 _ (List.mem_of_getElem? (i := 22) rfl)) rfl (dk dX10_third_0 17 rfl) ?_
      refine k_aload_n C (dk dX10_third_0 18 rfl) rfl 0 rfl ?_
      refine k_getR (q := 1) (D := RX10) (T := TX10) (N := 9) (ci := 5) (k := 0) C iCX10 rfl (by decide) rfl (by decide) (iW0 _ (List.mem_of_getElem? (i := 16) rfl)) rfl (dk dX10_third_0 19 rfl) ?_
      refine k_getI (D := RX3) (T := TX3) (N := 10) (ci := 1) (k := 5) C iCX3 rfl (by decide) rfl (by decide) (iW12 _ (List.mem_of_getElem? (i := 22) rfl)) rfl (dk dX10_third_0 20 rfl) h (fun x6 h => ?_)
      refine cl2_k h (fun x8 s7 hc h => ?_)
      refine k_cv (T := TX0) (N := 9) (ci := 0) (ob := 28) (As := [.int x6]) (st := []) C (qX0_nearOf l g hg hc) (iW25 _ (List.mem_of_getElem? (i := 11) rfl)) (iW25 _ (List.mem_of_getElem? (i := 12) rfl)) (iW25 _ (List.mem_of_getElem? (i := 13) rfl)) (iW0 _ (List.mem_of_getElem? (i := 21) rfl)) (iW25 _ (List.mem_of_getElem? (i := 14) rfl)) rfl rfl hdX0_nearOf (by decide) rfl (by decide) rfl rfl rfl (Nat.le_of_ble_eq_true rfl) (dk dX10_third_0 21 rfl) ?_
      refine k_aload_n C (dk dX10_third_0 22 rfl) rfl 0 rfl ?_
      refine k_getR (q := 28) (D := RX10) (T := TX10) (N := 9) (ci := 5) (k := 4) C iCX10 rfl (by decide) rfl (by decide) (iW0 _ (List.mem_of_getElem? (i := 22) rfl)) rfl (dk dX10_third_0 23 rfl) ?_
      refine k_aload_n C (dk dX10_third_0 24 rfl) rfl 0 rfl ?_
      refine k_getR (q := 1) (D := RX10) (T := TX10) (N := 9) (ci := 5) (k := 0) C iCX10 rfl (by decide) rfl (by decide) (iW0 _ (List.mem_of_getElem? (i := 16) rfl)) rfl (dk dX10_third_0 25 rfl) ?_
      refine k_getI (D := RX3) (T := TX3) (N := 10) (ci := 1) (k := 6) C iCX3 rfl (by decide) rfl (by decide) (iW12 _ (List.mem_of_getElem? (i := 23) rfl)) rfl (dk dX10_third_0 26 rfl) h (fun x9 h => ?_)
      refine cl2_k h (fun x11 s10 hc h => ?_)
      refine k_cv (T := TX0) (N := 9) (ci := 0) (ob := 28) (As := [.int x9]) (st := [.long x8]) C (qX0_nearOf l g hg hc) (iW25 _ (List.mem_of_getElem? (i := 11) rfl)) (iW25 _ (List.mem_of_getElem? (i := 12) rfl)) (iW25 _ (List.mem_of_getElem? (i := 13) rfl)) (iW0 _ (List.mem_of_getElem? (i := 21) rfl)) (iW25 _ (List.mem_of_getElem? (i := 14) rfl)) rfl rfl hdX0_nearOf (by decide) rfl (by decide) rfl rfl rfl (Nat.le_of_ble_eq_true rfl) (dk dX10_third_0 27 rfl) ?_
      refine k_land C (dk dX10_third_0 28 rfl) ?_
      refine k_aload_n C (dk dX10_third_0 29 rfl) rfl 0 rfl ?_
      refine k_getR (q := 1) (D := RX10) (T := TX10) (N := 9) (ci := 5) (k := 0) C iCX10 rfl (by decide) rfl (by decide) (iW0 _ (List.mem_of_getElem? (i := 16) rfl)) rfl (dk dX10_third_0 30 rfl) ?_
      refine cl2_k h (fun x13 s12 hc h => ?_)
      refine k_cv (T := TX3) (N := 10) (ci := 1) (ob := 1) (As := []) (st := [.long (x8 &&& x11)]) C (qX3_openCells l g hg rfl hc) (iW14 _ (List.mem_of_getElem? (i := 10) rfl)) (iW14 _ (List.mem_of_getElem? (i := 11) rfl)) (iW14 _ (List.mem_of_getElem? (i := 12) rfl)) (iW0 _ (List.mem_of_getElem? (i := 15) rfl)) (iW14 _ (List.mem_of_getElem? (i := 13) rfl)) rfl rfl hdX3_openCells (by decide) rfl (by decide) rfl rfl rfl (Nat.le_of_ble_eq_true rfl) (dk dX10_third_0 31 rfl) ?_
      refine k_land C (dk dX10_third_1 0 rfl) ?_
      refine nmL h (fun x14 h => ?_)
      refine k_lstore_n (lv' := [(2, .long x14), (0, .ref (g.2.2 0)), (1, .int a1)]) C (dk dX10_third_1 1 rfl) rfl (by decide) rfl ?_
      refine k_iload_n C (dk dX10_third_1 2 rfl) rfl 2 rfl ?_
      refine k_if_ne (tgt := 82) C (dk dX10_third_1 3 rfl) (by decide) h (fun h => ?_) (fun h => ?_)
      ·
        refine k_lload_n C (dk dX10_third_1 7 rfl) rfl 0 rfl ?_
        refine cl2_k h (fun x16 s15 hc h => ?_)
        refine k_cs (As := [.long x14]) (st := []) C (qX7_leastOf l g hg hc) (iW28 _ (List.mem_of_getElem? (i := 2) rfl)) (iW28 _ (List.mem_of_getElem? (i := 3) rfl)) (iW7 _ (List.mem_of_getElem? (i := 4) rfl)) (iW28 _ (List.mem_of_getElem? (i := 4) rfl)) rfl rfl hdX7_leastOf (by decide) rfl rfl (Nat.le_of_ble_eq_true rfl) (dk dX10_third_1 8 rfl) ?_
        exact k_iret E (dk dX10_third_1 9 rfl) h
      ·
        refine k_lload_n C (dk dX10_third_1 4 rfl) rfl 0 rfl ?_
        refine cl2_k h (fun x18 s17 hc h => ?_)
        refine k_cs (As := [.long x14]) (st := []) C (qJ13_bitCount_95d88 l g hg hc) (iW18 _ (List.mem_of_getElem? (i := 14) rfl)) (iW16 _ (List.mem_of_getElem? (i := 20) rfl)) (iW16 _ (List.mem_of_getElem? (i := 21) rfl)) (iW16 _ (List.mem_of_getElem? (i := 22) rfl)) rfl rfl hdJ13_bitCount_95d88 (by decide) rfl rfl (Nat.le_of_ble_eq_true rfl) (dk dX10_third_1 5 rfl) ?_
        refine k_goto (tgt := 86) C (dk dX10_third_1 6 rfl) (by decide) ?_
        exact k_iret E (dk dX10_third_1 9 rfl) h
    ·
      refine k_bipush (v := (-3 : Int32)) C (dk dX10_third_0 9 rfl) (by decide) ?_
      exact k_iret E (dk dX10_third_0 10 rfl) h
  ·
    refine k_iconst (v := (-1 : Int32)) C (dk dX10_third_0 3 rfl) (by decide) ?_
    exact k_iret E (dk dX10_third_0 4 rfl) h
