set_option maxRecDepth 100000 in
set_option maxHeartbeats 4000000 in
theorem qX11_wrongCells (l : Launch) (g : G) (hg : gOK g) {a1 : Int32}  {s0 σe : St} {v : Int32} (h : mX11_wrongCells a1 s0 = some (v, σe)) : Mc l g yX11_wrongCells cX11_wrongCells 4 (some .int) { frames := 2, cells := 0, slots := 0, locals := 46 } [.ref (g.2.2 45), .int a1] s0 (some (.int v)) σe := by
  refine k_enter hg pnRX11 rfl (Nat.le_of_ble_eq_true rfl) ?_
  intro WK E
  have C := kX_y E
  unfold mX11_wrongCells at h
  show WK 0 [(0, .ref (g.2.2 45)), (1, .int a1)] [] s0
  refine k_aload_n C (dk dX11_wrongCells_0 0 rfl) rfl 0 rfl ?_
  refine k_iload_n C (dk dX11_wrongCells_0 1 rfl) rfl 1 rfl ?_
  refine cl2_k h (fun x2 s1 hc h => ?_)
  refine k_cv (T := TX11) (N := 39) (ci := 6) (ob := 45) (As := [.int a1]) (st := []) C (qX11_wrongRow l g hg hc) (iW8 _ (List.mem_of_getElem? (i := 11) rfl)) (iW8 _ (List.mem_of_getElem? (i := 12) rfl)) (iW8 _ (List.mem_of_getElem? (i := 13) rfl)) (iW0 _ (List.mem_of_getElem? (i := 5) rfl)) (iW8 _ (List.mem_of_getElem? (i := 14) rfl)) rfl rfl hdX11_wrongRow (by decide) rfl (by decide) rfl rfl rfl (Nat.le_of_ble_eq_true rfl) (dk dX11_wrongCells_0 2 rfl) ?_
  refine k_istore_n (lv' := [(2, .int x2), (0, .ref (g.2.2 45)), (1, .int a1)]) C (dk dX11_wrongCells_0 3 rfl) rfl (by decide) rfl ?_
  refine k_iload_n C (dk dX11_wrongCells_0 4 rfl) rfl 0 rfl ?_
  refine k_if_ge (tgt := 12) C (dk dX11_wrongCells_0 5 rfl) (by decide) h (fun h => ?_) (fun h => ?_)
  ·
    refine k_iconst (v := (0 : Int32)) C (dk dX11_wrongCells_0 8 rfl) (by decide) ?_
    refine k_istore_n (lv' := [(3, .int (0 : Int32)), (2, .int x2), (0, .ref (g.2.2 45)), (1, .int a1)]) C (dk dX11_wrongCells_0 9 rfl) rfl (by decide) rfl ?_
    refine kl_L (P := (fun J14 => ∀ (y3 : Int32) (s4 : St), J14 y3 s4 = some (v, σe) → WK 14 [(0, .ref (g.2.2 45)), (1, .int a1), (3, .int y3)] [] s4)) h (fun _ _ h => nomatch h) (fun J14 hJ14 y3 s4 h => ?_) (fun J14 hJ14 h => ?_)
    ·
      unfold mX11_wrongCells_14 at h
      refine k_iload_n C (dk dX11_wrongCells_0 10 rfl) rfl 2 rfl ?_
      refine k_aload_n C (dk dX11_wrongCells_0 11 rfl) rfl 0 rfl ?_
      refine k_getR (q := 52) (D := RX11) (T := TX11) (N := 39) (ci := 6) (k := 14) C iCX11 rfl (by decide) rfl (by decide) (iW3 _ (List.mem_of_getElem? (i := 5) rfl)) rfl (dk dX11_wrongCells_0 12 rfl) ?_
      refine k_iload_n C (dk dX11_wrongCells_0 13 rfl) rfl 1 rfl ?_
      refine k_iald C rfl rfl (dk dX11_wrongCells_0 14 rfl) h (fun x5 h => ?_)
      refine k_icmp_ge (tgt := 50) C (dk dX11_wrongCells_0 15 rfl) (by decide) h (fun h => ?_) (fun h => ?_)
      ·
        refine k_aload_n C (dk dX11_wrongCells_0 30 rfl) rfl 0 rfl ?_
        refine k_getR (q := 52) (D := RX11) (T := TX11) (N := 39) (ci := 6) (k := 14) C iCX11 rfl (by decide) rfl (by decide) (iW3 _ (List.mem_of_getElem? (i := 5) rfl)) rfl (dk dX11_wrongCells_0 31 rfl) ?_
        refine k_iload_n C (dk dX11_wrongCells_1 0 rfl) rfl 1 rfl ?_
        refine k_iald C rfl rfl (dk dX11_wrongCells_1 1 rfl) h (fun x6 h => ?_)
        refine k_if_ne (tgt := 64) C (dk dX11_wrongCells_1 2 rfl) (by decide) h (fun h => ?_) (fun h => ?_)
        ·
          refine k_iconst (v := (0 : Int32)) C (dk dX11_wrongCells_1 5 rfl) (by decide) ?_
          exact k_iret E (dk dX11_wrongCells_1 6 rfl) h
        ·
          refine k_bipush (v := (-13 : Int32)) C (dk dX11_wrongCells_1 3 rfl) (by decide) ?_
          refine k_goto (tgt := 65) C (dk dX11_wrongCells_1 4 rfl) (by decide) ?_
          exact k_iret E (dk dX11_wrongCells_1 6 rfl) h
      ·
        refine k_aload_n C (dk dX11_wrongCells_0 16 rfl) rfl 0 rfl ?_
        refine k_getR (q := 53) (D := RX11) (T := TX11) (N := 39) (ci := 6) (k := 15) C iCX11 rfl (by decide) rfl (by decide) (iW3 _ (List.mem_of_getElem? (i := 6) rfl)) rfl (dk dX11_wrongCells_0 17 rfl) ?_
        refine k_bipush (v := (100 : Int32)) C (dk dX11_wrongCells_0 18 rfl) (by decide) ?_
        refine k_iload_n C (dk dX11_wrongCells_0 19 rfl) rfl 1 rfl ?_
        refine k_imul C (dk dX11_wrongCells_0 20 rfl) ?_
        refine k_iload_n C (dk dX11_wrongCells_0 21 rfl) rfl 2 rfl ?_
        refine k_iadd C (dk dX11_wrongCells_0 22 rfl) ?_
        refine k_lald C rfl rfl (dk dX11_wrongCells_0 23 rfl) h (fun x7 h => ?_)
        refine cl2_k h (fun x9 s8 hc h => ?_)
        refine k_cs (As := [.long x7]) (st := []) C (qX11_isCell l g hg hc) (iW11 _ (List.mem_of_getElem? (i := 21) rfl)) (iW11 _ (List.mem_of_getElem? (i := 22) rfl)) (iW0 _ (List.mem_of_getElem? (i := 5) rfl)) (iW11 _ (List.mem_of_getElem? (i := 23) rfl)) rfl rfl hdX11_isCell (by decide) rfl rfl (Nat.le_of_ble_eq_true rfl) (dk dX11_wrongCells_0 24 rfl) ?_
        refine k_if_ne (tgt := 44) C (dk dX11_wrongCells_0 25 rfl) (by decide) h (fun h => ?_) (fun h => ?_)
        ·
          refine k_iinc (lv' := [(3, .int (y3 + 1)), (0, .ref (g.2.2 45)), (1, .int a1)]) C (dk dX11_wrongCells_0 28 rfl) (j := 2) rfl rfl (by decide) rfl ?_
          refine k_goto (tgt := 14) C (dk dX11_wrongCells_0 29 rfl) (by decide) ?_
          refine k_sub C [1, 2, 0] rfl ?_
          exact hJ14 _ _ h
        ·
          refine k_bipush (v := (-13 : Int32)) C (dk dX11_wrongCells_0 26 rfl) (by decide) ?_
          exact k_iret E (dk dX11_wrongCells_0 27 rfl) h
    ·
      refine k_sub C [2, 3, 0] rfl ?_
      exact hJ14 _ _ h
  ·
    refine k_iload_n C (dk dX11_wrongCells_0 6 rfl) rfl 0 rfl ?_
    exact k_iret E (dk dX11_wrongCells_0 7 rfl) h
set_option maxRecDepth 100000 in
set_option maxHeartbeats 4000000 in
theorem qX11_notOff (l : Launch) (g : G) (hg : gOK g) {a1 : Int32} {a2 : Int32} {a3 : Int64}  {s0 σe : St} {v : Int64} (h : mX11_notOff a1 a2 a3 s0 = some (v, σe)) : Mc l g yX11_notOff cX11_notOff 8 (some .long) { frames := 3, cells := 0, slots := 0, locals := 65 } [.ref (g.2.2 45), .int a1, .int a2, .long a3] s0 (some (.long v)) σe := by
  refine k_enter hg pnRX11 rfl (Nat.le_of_ble_eq_true rfl) ?_
  intro WK E
  have C := kX_y E
  unfold mX11_notOff at h
  show WK 0 [(0, .ref (g.2.2 45)), (1, .int a1), (2, .int a2), (3, .long a3)] [] s0
  refine k_lconst (v := (0 : Int64)) C (dk dX11_notOff_0 0 rfl) (by decide) ?_
  refine k_lstore (lv' := [(5, .long (0 : Int64)), (0, .ref (g.2.2 45)), (1, .int a1), (2, .int a2), (3, .long a3)]) C (dk dX11_notOff_0 1 rfl) (by decide) rfl ?_
  refine k_iconst (v := (0 : Int32)) C (dk dX11_notOff_0 2 rfl) (by decide) ?_
  refine k_istore (lv' := [(7, .int (0 : Int32)), (5, .long (0 : Int64)), (0, .ref (g.2.2 45)), (1, .int a1), (2, .int a2), (3, .long a3)]) C (dk dX11_notOff_0 3 rfl) (by decide) rfl ?_
  refine kl_L (P := (fun J6 => ∀ (y1 : Int64) (y2 : Int32) (s3 : St), J6 y1 y2 s3 = some (v, σe) → WK 6 [(0, .ref (g.2.2 45)), (1, .int a1), (2, .int a2), (3, .long a3), (5, .long y1), (7, .int y2)] [] s3)) h (fun _ _ _ h => nomatch h) (fun J6 hJ6 y1 y2 s3 h => ?_) (fun J6 hJ6 h => ?_)
  ·
    unfold mX11_notOff_6 at h
    refine k_iload C (dk dX11_notOff_0 4 rfl) 5 rfl ?_
    refine k_bipush (v := (36 : Int32)) C (dk dX11_notOff_0 5 rfl) (by decide) ?_
    refine k_icmp_ge (tgt := 62) C (dk dX11_notOff_0 6 rfl) (by decide) h (fun h => ?_) (fun h => ?_)
    ·
      refine k_lload C (dk dX11_notOff_1 2 rfl) 4 rfl ?_
      exact k_lret E (dk dX11_notOff_1 3 rfl) h
    ·
      refine k_lload C (dk dX11_notOff_0 7 rfl) 4 rfl ?_
      refine k_lload_n C (dk dX11_notOff_0 8 rfl) rfl 3 rfl ?_
      refine k_iload C (dk dX11_notOff_0 9 rfl) 5 rfl ?_
      refine cl2_k h (fun x5 s4 hc h => ?_)
      refine k_cs (As := [.long a3, .int y2]) (st := [.long y1]) C (qX11_isOn l g hg hc) (iW15 _ (List.mem_of_getElem? (i := 12) rfl)) (iW15 _ (List.mem_of_getElem? (i := 13) rfl)) (iW0 _ (List.mem_of_getElem? (i := 5) rfl)) (iW15 _ (List.mem_of_getElem? (i := 14) rfl)) rfl rfl hdX11_isOn (by decide) rfl rfl (Nat.le_of_ble_eq_true rfl) (dk dX11_notOff_0 10 rfl) ?_
      refine kl_J (P := (fun J53 => ∀ (y6 : Int64) (s7 : St), J53 y6 s7 = some (v, σe) → WK 53 [(0, .ref (g.2.2 45)), (1, .int a1), (2, .int a2), (3, .long a3), (7, .int y2)] [.long y6, .long y1] s7)) h (fun y6 s7 h => ?_) (fun J53 hJ53 h => ?_)
      ·
        unfold mX11_notOff_53 at h
        refine k_lor C (dk dX11_notOff_0 30 rfl) ?_
        refine nmL h (fun x8 h => ?_)
        refine k_lstore (lv' := [(5, .long x8), (0, .ref (g.2.2 45)), (1, .int a1), (2, .int a2), (3, .long a3), (7, .int y2)]) C (dk dX11_notOff_0 31 rfl) (by decide) rfl ?_
        refine k_iinc (lv' := [(7, .int (y2 + 1)), (5, .long x8), (0, .ref (g.2.2 45)), (1, .int a1), (2, .int a2), (3, .long a3)]) C (dk dX11_notOff_1 0 rfl) (j := 5) rfl rfl (by decide) rfl ?_
        refine k_goto (tgt := 6) C (dk dX11_notOff_1 1 rfl) (by decide) ?_
        refine k_sub C [2, 3, 4, 5, 1, 0] rfl ?_
        exact hJ6 _ _ _ h
      ·
        refine kl_J (P := (fun J52 => ∀ (s9 : St), J52 s9 = some (v, σe) → WK 52 [(0, .ref (g.2.2 45)), (1, .int a1), (2, .int a2), (3, .long a3), (7, .int y2)] [.long y1] s9)) h (fun s9 h => ?_) (fun J52 hJ52 h => ?_)
        ·
          unfold mX11_notOff_52 at h
          refine k_lconst (v := (0 : Int64)) C (dk dX11_notOff_0 29 rfl) (by decide) ?_
          exact hJ53 _ _ h
        ·
          refine k_if_eq (tgt := 52) C (dk dX11_notOff_0 11 rfl) (by decide) h (fun h => ?_) (fun h => ?_)
          ·
            refine k_sub C [0, 1, 2, 3, 5] rfl ?_
            exact hJ52 _ h
          ·
            refine k_aload_n C (dk dX11_notOff_0 12 rfl) rfl 0 rfl ?_
            refine k_aload_n C (dk dX11_notOff_0 13 rfl) rfl 0 rfl ?_
            refine k_getR (q := 53) (D := RX11) (T := TX11) (N := 39) (ci := 6) (k := 15) C iCX11 rfl (by decide) rfl (by decide) (iW3 _ (List.mem_of_getElem? (i := 6) rfl)) rfl (dk dX11_notOff_0 14 rfl) ?_
            refine k_bipush (v := (100 : Int32)) C (dk dX11_notOff_0 15 rfl) (by decide) ?_
            refine k_iload_n C (dk dX11_notOff_0 16 rfl) rfl 1 rfl ?_
            refine k_imul C (dk dX11_notOff_0 17 rfl) ?_
            refine k_iload_n C (dk dX11_notOff_0 18 rfl) rfl 2 rfl ?_
            refine k_iadd C (dk dX11_notOff_0 19 rfl) ?_
            refine k_lald C rfl rfl (dk dX11_notOff_0 20 rfl) h (fun x10 h => ?_)
            refine k_l2i C (dk dX11_notOff_0 21 rfl) ?_
            refine k_iload C (dk dX11_notOff_0 22 rfl) 5 rfl ?_
            refine cl2_k h (fun x12 s11 hc h => ?_)
            refine k_cv (T := TX11) (N := 39) (ci := 6) (ob := 45) (As := [.int x10.toInt32, .int y2]) (st := [.long y1]) C (qX11_isOff l g hg hc) (iW17 _ (List.mem_of_getElem? (i := 12) rfl)) (iW17 _ (List.mem_of_getElem? (i := 13) rfl)) (iW17 _ (List.mem_of_getElem? (i := 14) rfl)) (iW0 _ (List.mem_of_getElem? (i := 5) rfl)) (iW17 _ (List.mem_of_getElem? (i := 15) rfl)) rfl rfl hdX11_isOff (by decide) rfl (by decide) rfl rfl rfl (Nat.le_of_ble_eq_true rfl) (dk dX11_notOff_0 23 rfl) ?_
            refine k_if_ne (tgt := 52) C (dk dX11_notOff_0 24 rfl) (by decide) h (fun h => ?_) (fun h => ?_)
            ·
              refine k_sub C [0, 1, 2, 3, 5] rfl ?_
              exact hJ52 _ h
            ·
              refine k_lconst (v := (1 : Int64)) C (dk dX11_notOff_0 25 rfl) (by decide) ?_
              refine k_iload C (dk dX11_notOff_0 26 rfl) 5 rfl ?_
              refine k_lshl C (dk dX11_notOff_0 27 rfl) ?_
              refine k_goto (tgt := 53) C (dk dX11_notOff_0 28 rfl) (by decide) ?_
              refine k_sub C [0, 1, 2, 3, 5] rfl ?_
              exact hJ53 _ _ h
  ·
    refine k_sub C [2, 3, 4, 5, 1, 0] rfl ?_
    exact hJ6 _ _ _ h
set_option maxRecDepth 100000 in
set_option maxHeartbeats 4000000 in
theorem qX11_toTheLast (l : Launch) (g : G) (hg : gOK g) {a1 : Int32} {a2 : Int32} {a3 : Int64}  {s0 σe : St} {v : Int64} (h : mX11_toTheLast a1 a2 a3 s0 = some (v, σe)) : Mc l g yX11_toTheLast cX11_toTheLast 8 (some .long) { frames := 4, cells := 0, slots := 0, locals := 92 } [.ref (g.2.2 45), .int a1, .int a2, .long a3] s0 (some (.long v)) σe := by
  refine k_enter hg pnRX11 rfl (Nat.le_of_ble_eq_true rfl) ?_
  intro WK E
  have C := kX_y E
  unfold mX11_toTheLast at h
  show WK 0 [(0, .ref (g.2.2 45)), (1, .int a1), (2, .int a2), (3, .long a3)] [] s0
  refine k_lload_n C (dk dX11_toTheLast_0 0 rfl) rfl 3 rfl ?_
  refine k_lstore (lv' := [(5, .long a3), (0, .ref (g.2.2 45)), (1, .int a1), (2, .int a2), (3, .long a3)]) C (dk dX11_toTheLast_0 1 rfl) (by decide) rfl ?_
  refine k_iload_n C (dk dX11_toTheLast_0 2 rfl) rfl 3 rfl ?_
  refine k_iconst (v := (1 : Int32)) C (dk dX11_toTheLast_0 3 rfl) (by decide) ?_
  refine k_iadd C (dk dX11_toTheLast_0 4 rfl) ?_
  refine nmI h (fun x1 h => ?_)
  refine k_istore (lv' := [(7, .int x1), (5, .long a3), (0, .ref (g.2.2 45)), (1, .int a1), (2, .int a2), (3, .long a3)]) C (dk dX11_toTheLast_0 5 rfl) (by decide) rfl ?_
  refine kl_L (P := (fun J8 => ∀ (y2 : Int64) (y3 : Int32) (s4 : St), J8 y2 y3 s4 = some (v, σe) → WK 8 [(0, .ref (g.2.2 45)), (1, .int a1), (5, .long y2), (7, .int y3)] [] s4)) h (fun _ _ _ h => nomatch h) (fun J8 hJ8 y2 y3 s4 h => ?_) (fun J8 hJ8 h => ?_)
  ·
    unfold mX11_toTheLast_8 at h
    refine k_iload C (dk dX11_toTheLast_0 6 rfl) 3 rfl ?_
    refine k_aload_n C (dk dX11_toTheLast_0 7 rfl) rfl 0 rfl ?_
    refine k_getR (q := 52) (D := RX11) (T := TX11) (N := 39) (ci := 6) (k := 14) C iCX11 rfl (by decide) rfl (by decide) (iW3 _ (List.mem_of_getElem? (i := 5) rfl)) rfl (dk dX11_toTheLast_0 8 rfl) ?_
    refine k_iload_n C (dk dX11_toTheLast_0 9 rfl) rfl 1 rfl ?_
    refine k_iald C rfl rfl (dk dX11_toTheLast_0 10 rfl) h (fun x5 h => ?_)
    refine k_icmp_ge (tgt := 40) C (dk dX11_toTheLast_0 11 rfl) (by decide) h (fun h => ?_) (fun h => ?_)
    ·
      refine k_lload C (dk dX11_toTheLast_0 22 rfl) 2 rfl ?_
      exact k_lret E (dk dX11_toTheLast_0 23 rfl) h
    ·
      refine k_aload_n C (dk dX11_toTheLast_0 12 rfl) rfl 0 rfl ?_
      refine k_iload_n C (dk dX11_toTheLast_0 13 rfl) rfl 1 rfl ?_
      refine k_iload C (dk dX11_toTheLast_0 14 rfl) 3 rfl ?_
      refine k_aload_n C (dk dX11_toTheLast_0 15 rfl) rfl 0 rfl ?_
      refine k_lload C (dk dX11_toTheLast_0 16 rfl) 2 rfl ?_
      refine cl2_k h (fun x7 s6 hc h => ?_)
      refine k_cv (T := TX11) (N := 39) (ci := 6) (ob := 45) (As := [.long y2]) (st := [.int y3, .int a1, .ref (g.2.2 45)]) C (qX11_goOn l g hg hc) (iW15 _ (List.mem_of_getElem? (i := 15) rfl)) (iW15 _ (List.mem_of_getElem? (i := 16) rfl)) (iW15 _ (List.mem_of_getElem? (i := 17) rfl)) (iW0 _ (List.mem_of_getElem? (i := 5) rfl)) (iW15 _ (List.mem_of_getElem? (i := 18) rfl)) rfl rfl hdX11_goOn (by decide) rfl (by decide) rfl rfl rfl (Nat.le_of_ble_eq_true rfl) (dk dX11_toTheLast_0 17 rfl) ?_
      refine cl2_k h (fun x9 s8 hc h => ?_)
      refine k_cv (T := TX11) (N := 39) (ci := 6) (ob := 45) (As := [.int a1, .int y3, .long x7]) (st := []) C (qX11_notOff l g hg hc) (iW26 _ (List.mem_of_getElem? (i := 20) rfl)) (iW26 _ (List.mem_of_getElem? (i := 21) rfl)) (iW26 _ (List.mem_of_getElem? (i := 22) rfl)) (iW0 _ (List.mem_of_getElem? (i := 5) rfl)) (iW26 _ (List.mem_of_getElem? (i := 23) rfl)) rfl rfl hdX11_notOff (by decide) rfl (by decide) rfl rfl rfl (Nat.le_of_ble_eq_true rfl) (dk dX11_toTheLast_0 18 rfl) ?_
      refine k_lstore (lv' := [(5, .long x9), (0, .ref (g.2.2 45)), (1, .int a1), (7, .int y3)]) C (dk dX11_toTheLast_0 19 rfl) (by decide) rfl ?_
      refine k_iinc (lv' := [(7, .int (y3 + 1)), (5, .long x9), (0, .ref (g.2.2 45)), (1, .int a1)]) C (dk dX11_toTheLast_0 20 rfl) (j := 3) rfl rfl (by decide) rfl ?_
      refine k_goto (tgt := 8) C (dk dX11_toTheLast_0 21 rfl) (by decide) ?_
      refine k_sub C [2, 3, 1, 0] rfl ?_
      exact hJ8 _ _ _ h
  ·
    refine k_sub C [2, 3, 1, 0] rfl ?_
    exact hJ8 _ _ _ h
set_option maxRecDepth 100000 in
set_option maxHeartbeats 4000000 in
theorem qX11_hisWay (l : Launch) (g : G) (hg : gOK g) {a1 : Int32} {a2 : Int32}  {s0 σe : St} {v : Int64} (h : mX11_hisWay a1 a2 s0 = some (v, σe)) : Mc l g yX11_hisWay cX11_hisWay 6 (some .long) { frames := 5, cells := 0, slots := 0, locals := 119 } [.ref (g.2.2 45), .int a1, .int a2] s0 (some (.long v)) σe := by
  refine k_enter hg pnRX11 rfl (Nat.le_of_ble_eq_true rfl) ?_
  intro WK E
  have C := kX_y E
  unfold mX11_hisWay at h
  show WK 0 [(0, .ref (g.2.2 45)), (1, .int a1), (2, .int a2)] [] s0
  refine k_aload_n C (dk dX11_hisWay_0 0 rfl) rfl 0 rfl ?_
  refine k_iconst (v := (0 : Int32)) C (dk dX11_hisWay_0 1 rfl) (by decide) ?_
  refine k_putI (D := RX11) (T := TX11) (N := 39) (ci := 6) (k := 16) C iCX11 tyX11_ok nmX11 rfl (by decide) rfl (by decide) (iW3 _ (List.mem_of_getElem? (i := 20) rfl)) rfl rfl flq6_16 flp6_16 (dk dX11_hisWay_0 2 rfl) h (fun s1 h => ?_)
  refine k_iload_n C (dk dX11_hisWay_0 3 rfl) rfl 2 rfl ?_
  refine k_i2l C (dk dX11_hisWay_0 4 rfl) ?_
  refine k_lconst (v := (0 : Int64)) C (dk dX11_hisWay_0 5 rfl) (by decide) ?_
  refine k_lconst (v := (1 : Int64)) C (dk dX11_hisWay_0 6 rfl) (by decide) ?_
  refine cl2_k h (fun x3 s2 hc h => ?_)
  refine k_cs (As := [.long a2.toInt64, .long (0 : Int64), .long (1 : Int64)]) (st := []) C (qX11_in l g hg hc) (iW8 _ (List.mem_of_getElem? (i := 16) rfl)) (iW8 _ (List.mem_of_getElem? (i := 17) rfl)) (iW0 _ (List.mem_of_getElem? (i := 5) rfl)) (iW8 _ (List.mem_of_getElem? (i := 18) rfl)) rfl rfl hdX11_in (by decide) rfl rfl (Nat.le_of_ble_eq_true rfl) (dk dX11_hisWay_0 7 rfl) ?_
  refine kl_J (P := (fun J24 => ∀ (y4 : Int32) (s5 : St), J24 y4 s5 = some (v, σe) → WK 24 [(0, .ref (g.2.2 45)), (1, .int a1), (2, .int a2)] [.int y4] s5)) h (fun y4 s5 h => ?_) (fun J24 hJ24 h => ?_)
  ·
    unfold mX11_hisWay_24 at h
    refine k_istore_n (lv' := [(3, .int y4), (0, .ref (g.2.2 45)), (1, .int a1), (2, .int a2)]) C (dk dX11_hisWay_0 14 rfl) rfl (by decide) rfl ?_
    refine k_iload_n C (dk dX11_hisWay_0 15 rfl) rfl 0 rfl ?_
    refine k_if_ge (tgt := 36) C (dk dX11_hisWay_0 16 rfl) (by decide) h (fun h => ?_) (fun h => ?_)
    ·
      refine k_aload_n C (dk dX11_hisWay_0 22 rfl) rfl 1 rfl ?_
      refine k_iload_n C (dk dX11_hisWay_0 23 rfl) rfl 2 rfl ?_
      refine k_iconst (v := (0 : Int32)) C (dk dX11_hisWay_0 24 rfl) (by decide) ?_
      refine k_aload_n C (dk dX11_hisWay_0 25 rfl) rfl 1 rfl ?_
      refine k_iload_n C (dk dX11_hisWay_0 26 rfl) rfl 2 rfl ?_
      refine k_iconst (v := (0 : Int32)) C (dk dX11_hisWay_0 27 rfl) (by decide) ?_
      refine k_aload_n C (dk dX11_hisWay_0 28 rfl) rfl 1 rfl ?_
      refine cl2_k h (fun x7 s6 hc h => ?_)
      refine k_cv (T := TX11) (N := 39) (ci := 6) (ob := 45) (As := []) (st := [.int (0 : Int32), .int a1, .ref (g.2.2 45), .int (0 : Int32), .int a1, .ref (g.2.2 45)]) C (qX11_openCells l g hg hc) (iW15 _ (List.mem_of_getElem? (i := 8) rfl)) (iW15 _ (List.mem_of_getElem? (i := 9) rfl)) (iW15 _ (List.mem_of_getElem? (i := 10) rfl)) (iW0 _ (List.mem_of_getElem? (i := 5) rfl)) (iW15 _ (List.mem_of_getElem? (i := 11) rfl)) rfl rfl hdX11_openCells (by decide) rfl (by decide) rfl rfl rfl (Nat.le_of_ble_eq_true rfl) (dk dX11_hisWay_0 29 rfl) ?_
      refine cl2_k h (fun x9 s8 hc h => ?_)
      refine k_cv (T := TX11) (N := 39) (ci := 6) (ob := 45) (As := [.int a1, .int (0 : Int32), .long x7]) (st := [.int (0 : Int32), .int a1, .ref (g.2.2 45)]) C (qX11_notOff l g hg hc) (iW26 _ (List.mem_of_getElem? (i := 20) rfl)) (iW26 _ (List.mem_of_getElem? (i := 21) rfl)) (iW26 _ (List.mem_of_getElem? (i := 22) rfl)) (iW0 _ (List.mem_of_getElem? (i := 5) rfl)) (iW26 _ (List.mem_of_getElem? (i := 23) rfl)) rfl rfl hdX11_notOff (by decide) rfl (by decide) rfl rfl rfl (Nat.le_of_ble_eq_true rfl) (dk dX11_hisWay_0 30 rfl) ?_
      refine cl2_k h (fun x11 s10 hc h => ?_)
      refine k_cv (T := TX11) (N := 39) (ci := 6) (ob := 45) (As := [.int a1, .int (0 : Int32), .long x9]) (st := []) C (qX11_toTheLast l g hg hc) (iW26 _ (List.mem_of_getElem? (i := 24) rfl)) (iW26 _ (List.mem_of_getElem? (i := 25) rfl)) (iW26 _ (List.mem_of_getElem? (i := 26) rfl)) (iW0 _ (List.mem_of_getElem? (i := 5) rfl)) (iW26 _ (List.mem_of_getElem? (i := 27) rfl)) rfl rfl hdX11_toTheLast (by decide) rfl (by decide) rfl rfl rfl (Nat.le_of_ble_eq_true rfl) (dk dX11_hisWay_0 31 rfl) ?_
      refine k_lstore (lv' := [(4, .long x11), (3, .int y4), (0, .ref (g.2.2 45)), (1, .int a1), (2, .int a2)]) C (dk dX11_hisWay_1 0 rfl) (by decide) rfl ?_
      refine k_iload_n C (dk dX11_hisWay_1 1 rfl) rfl 4 rfl ?_
      refine k_if_ne (tgt := 63) C (dk dX11_hisWay_1 2 rfl) (by decide) h (fun h => ?_) (fun h => ?_)
      ·
        refine k_lload C (dk dX11_hisWay_1 5 rfl) 0 rfl ?_
        refine cl2_k h (fun x13 s12 hc h => ?_)
        refine k_cs (As := [.long x11]) (st := []) C (qX11_onesOf l g hg hc) (iW18 _ (List.mem_of_getElem? (i := 19) rfl)) (iW18 _ (List.mem_of_getElem? (i := 20) rfl)) (iW0 _ (List.mem_of_getElem? (i := 5) rfl)) (iW18 _ (List.mem_of_getElem? (i := 21) rfl)) rfl rfl hdX11_onesOf (by decide) rfl rfl (Nat.le_of_ble_eq_true rfl) (dk dX11_hisWay_1 6 rfl) ?_
        refine k_i2l C (dk dX11_hisWay_1 7 rfl) ?_
        exact k_lret E (dk dX11_hisWay_1 8 rfl) h
      ·
        refine k_lload C (dk dX11_hisWay_1 3 rfl) 0 rfl ?_
        refine k_goto (tgt := 69) C (dk dX11_hisWay_1 4 rfl) (by decide) ?_
        exact k_lret E (dk dX11_hisWay_1 8 rfl) h
    ·
      refine k_iload_n C (dk dX11_hisWay_0 17 rfl) rfl 0 rfl ?_
      refine k_ldcw (v := (1000000000 : Int32)) C (dk dX11_hisWay_0 18 rfl) (iW24 _ (List.mem_of_getElem? (i := 12) rfl)) ?_
      refine k_isub C (dk dX11_hisWay_0 19 rfl) ?_
      refine k_i2l C (dk dX11_hisWay_0 20 rfl) ?_
      exact k_lret E (dk dX11_hisWay_0 21 rfl) h
  ·
    refine k_if_eq (tgt := 23) C (dk dX11_hisWay_0 8 rfl) (by decide) h (fun h => ?_) (fun h => ?_)
    ·
      refine k_iconst (v := (-1 : Int32)) C (dk dX11_hisWay_0 13 rfl) (by decide) ?_
      exact hJ24 _ _ h
    ·
      refine k_aload_n C (dk dX11_hisWay_0 9 rfl) rfl 0 rfl ?_
      refine k_iload_n C (dk dX11_hisWay_0 10 rfl) rfl 1 rfl ?_
      refine cl2_k h (fun x15 s14 hc h => ?_)
      refine k_cv (T := TX11) (N := 39) (ci := 6) (ob := 45) (As := [.int a1]) (st := []) C (qX11_wrongCells l g hg hc) (iW26 _ (List.mem_of_getElem? (i := 16) rfl)) (iW26 _ (List.mem_of_getElem? (i := 17) rfl)) (iW26 _ (List.mem_of_getElem? (i := 18) rfl)) (iW0 _ (List.mem_of_getElem? (i := 5) rfl)) (iW26 _ (List.mem_of_getElem? (i := 19) rfl)) rfl rfl hdX11_wrongCells (by decide) rfl (by decide) rfl rfl rfl (Nat.le_of_ble_eq_true rfl) (dk dX11_hisWay_0 11 rfl) ?_
      refine k_goto (tgt := 24) C (dk dX11_hisWay_0 12 rfl) (by decide) ?_
      exact hJ24 _ _ h
set_option maxRecDepth 100000 in
set_option maxHeartbeats 4000000 in
theorem qX11_letter (l : Launch) (g : G) (hg : gOK g) {a1 : Int32}  {s0 σe : St} {v : Int32} (h : mX11_letter a1 s0 = some (v, σe)) : Mc l g yX11_letter cX11_letter 11 (some .int) { frames := 5, cells := 0, slots := 0, locals := 119 } [.ref (g.2.2 45), .int a1] s0 (some (.int v)) σe := by
  refine k_enter hg pnRX11 rfl (Nat.le_of_ble_eq_true rfl) ?_
  intro WK E
  have C := kX_y E
  unfold mX11_letter at h
  show WK 0 [(0, .ref (g.2.2 45)), (1, .int a1)] [] s0
  refine k_aload_n C (dk dX11_letter_0 0 rfl) rfl 0 rfl ?_
  refine k_iconst (v := (0 : Int32)) C (dk dX11_letter_0 1 rfl) (by decide) ?_
  refine k_putI (D := RX11) (T := TX11) (N := 39) (ci := 6) (k := 16) C iCX11 tyX11_ok nmX11 rfl (by decide) rfl (by decide) (iW3 _ (List.mem_of_getElem? (i := 20) rfl)) rfl rfl flq6_16 flp6_16 (dk dX11_letter_0 2 rfl) h (fun s1 h => ?_)
  refine k_aload_n C (dk dX11_letter_0 3 rfl) rfl 0 rfl ?_
  refine k_iload_n C (dk dX11_letter_0 4 rfl) rfl 1 rfl ?_
  refine cl2_k h (fun x3 s2 hc h => ?_)
  refine k_cv (T := TX11) (N := 39) (ci := 6) (ob := 45) (As := [.int a1]) (st := []) C (qX11_wrongCells l g hg hc) (iW26 _ (List.mem_of_getElem? (i := 16) rfl)) (iW26 _ (List.mem_of_getElem? (i := 17) rfl)) (iW26 _ (List.mem_of_getElem? (i := 18) rfl)) (iW0 _ (List.mem_of_getElem? (i := 5) rfl)) (iW26 _ (List.mem_of_getElem? (i := 19) rfl)) rfl rfl hdX11_wrongCells (by decide) rfl (by decide) rfl rfl rfl (Nat.le_of_ble_eq_true rfl) (dk dX11_letter_0 5 rfl) ?_
  refine k_istore_n (lv' := [(2, .int x3), (0, .ref (g.2.2 45)), (1, .int a1)]) C (dk dX11_letter_0 6 rfl) rfl (by decide) rfl ?_
  refine k_iload_n C (dk dX11_letter_0 7 rfl) rfl 0 rfl ?_
  refine k_if_ge (tgt := 17) C (dk dX11_letter_0 8 rfl) (by decide) h (fun h => ?_) (fun h => ?_)
  ·
    refine k_bipush (v := (-4 : Int32)) C (dk dX11_letter_0 11 rfl) (by decide) ?_
    refine k_istore_n (lv' := [(3, .int (-4 : Int32)), (2, .int x3), (0, .ref (g.2.2 45)), (1, .int a1)]) C (dk dX11_letter_0 12 rfl) rfl (by decide) rfl ?_
    refine k_bipush (v := (99 : Int32)) C (dk dX11_letter_0 13 rfl) (by decide) ?_
    refine k_istore (lv' := [(4, .int (99 : Int32)), (3, .int (-4 : Int32)), (2, .int x3), (0, .ref (g.2.2 45)), (1, .int a1)]) C (dk dX11_letter_0 14 rfl) (by decide) rfl ?_
    refine k_aload_n C (dk dX11_letter_0 15 rfl) rfl 3 rfl ?_
    refine k_iload_n C (dk dX11_letter_0 16 rfl) rfl 4 rfl ?_
    refine k_iconst (v := (0 : Int32)) C (dk dX11_letter_0 17 rfl) (by decide) ?_
    refine k_aload_n C (dk dX11_letter_0 18 rfl) rfl 3 rfl ?_
    refine cl2_k h (fun x5 s4 hc h => ?_)
    refine k_cv (T := TX11) (N := 39) (ci := 6) (ob := 45) (As := []) (st := [.int (0 : Int32), .int a1, .ref (g.2.2 45)]) C (qX11_openCells l g hg hc) (iW15 _ (List.mem_of_getElem? (i := 8) rfl)) (iW15 _ (List.mem_of_getElem? (i := 9) rfl)) (iW15 _ (List.mem_of_getElem? (i := 10) rfl)) (iW0 _ (List.mem_of_getElem? (i := 5) rfl)) (iW15 _ (List.mem_of_getElem? (i := 11) rfl)) rfl rfl hdX11_openCells (by decide) rfl (by decide) rfl rfl rfl (Nat.le_of_ble_eq_true rfl) (dk dX11_letter_0 19 rfl) ?_
    refine cl2_k h (fun x7 s6 hc h => ?_)
    refine k_cv (T := TX11) (N := 39) (ci := 6) (ob := 45) (As := [.int a1, .int (0 : Int32), .long x5]) (st := []) C (qX11_notOff l g hg hc) (iW26 _ (List.mem_of_getElem? (i := 20) rfl)) (iW26 _ (List.mem_of_getElem? (i := 21) rfl)) (iW26 _ (List.mem_of_getElem? (i := 22) rfl)) (iW0 _ (List.mem_of_getElem? (i := 5) rfl)) (iW26 _ (List.mem_of_getElem? (i := 23) rfl)) rfl rfl hdX11_notOff (by decide) rfl (by decide) rfl rfl rfl (Nat.le_of_ble_eq_true rfl) (dk dX11_letter_0 20 rfl) ?_
    refine k_lstore (lv' := [(5, .long x7), (4, .int (99 : Int32)), (3, .int (-4 : Int32)), (2, .int x3), (0, .ref (g.2.2 45)), (1, .int a1)]) C (dk dX11_letter_0 21 rfl) (by decide) rfl ?_
    refine k_iconst (v := (0 : Int32)) C (dk dX11_letter_0 22 rfl) (by decide) ?_
    refine k_istore (lv' := [(7, .int (0 : Int32)), (5, .long x7), (4, .int (99 : Int32)), (3, .int (-4 : Int32)), (2, .int x3), (0, .ref (g.2.2 45)), (1, .int a1)]) C (dk dX11_letter_0 23 rfl) (by decide) rfl ?_
    refine kl_L (P := (fun J39 => ∀ (y8 : Int32) (y9 : Int32) (y10 : Int64) (y11 : Int32) (s12 : St), J39 y8 y9 y10 y11 s12 = some (v, σe) → WK 39 [(0, .ref (g.2.2 45)), (1, .int a1), (3, .int y8), (4, .int y9), (5, .long y10), (7, .int y11)] [] s12)) h (fun _ _ _ _ _ h => nomatch h) (fun J39 hJ39 y8 y9 y10 y11 s12 h => ?_) (fun J39 hJ39 h => ?_)
    ·
      unfold mX11_letter_39 at h
      refine k_iload C (dk dX11_letter_0 24 rfl) 5 rfl ?_
      refine k_aload_n C (dk dX11_letter_0 25 rfl) rfl 0 rfl ?_
      refine k_getR (q := 52) (D := RX11) (T := TX11) (N := 39) (ci := 6) (k := 14) C iCX11 rfl (by decide) rfl (by decide) (iW3 _ (List.mem_of_getElem? (i := 5) rfl)) rfl (dk dX11_letter_0 26 rfl) ?_
      refine k_iload_n C (dk dX11_letter_0 27 rfl) rfl 1 rfl ?_
      refine k_iald C rfl rfl (dk dX11_letter_0 28 rfl) h (fun x13 h => ?_)
      refine k_icmp_ge (tgt := 186) C (dk dX11_letter_0 29 rfl) (by decide) h (fun h => ?_) (fun h => ?_)
      ·
        refine k_iload_n C (dk dX11_letter_2 29 rfl) rfl 2 rfl ?_
        exact k_iret E (dk dX11_letter_2 30 rfl) h
      ·
        refine k_iload C (dk dX11_letter_0 30 rfl) 5 rfl ?_
        refine kl_J (P := (fun J73 => ∀ (y14 : Int64) (s15 : St), J73 y14 s15 = some (v, σe) → WK 73 [(0, .ref (g.2.2 45)), (1, .int a1), (3, .int y8), (4, .int y9), (7, .int y11)] [.long y14] s15)) h (fun y14 s15 h => ?_) (fun J73 hJ73 h => ?_)
        ·
          unfold mX11_letter_73 at h
          refine k_lstore (lv' := [(5, .long y14), (0, .ref (g.2.2 45)), (1, .int a1), (3, .int y8), (4, .int y9), (7, .int y11)]) C (dk dX11_letter_1 9 rfl) (by decide) rfl ?_
          refine k_iconst (v := (0 : Int32)) C (dk dX11_letter_1 10 rfl) (by decide) ?_
          refine k_istore (lv' := [(8, .int (0 : Int32)), (5, .long y14), (0, .ref (g.2.2 45)), (1, .int a1), (3, .int y8), (4, .int y9), (7, .int y11)]) C (dk dX11_letter_1 11 rfl) (by decide) rfl ?_
          refine k_iconst (v := (0 : Int32)) C (dk dX11_letter_1 12 rfl) (by decide) ?_
          refine k_istore (lv' := [(9, .int (0 : Int32)), (8, .int (0 : Int32)), (5, .long y14), (0, .ref (g.2.2 45)), (1, .int a1), (3, .int y8), (4, .int y9), (7, .int y11)]) C (dk dX11_letter_1 13 rfl) (by decide) rfl ?_
          refine kl_L (P := (fun J81 => ∀ (y16 : Int32) (y17 : Int32) (s18 : St), J81 y16 y17 s18 = some (v, σe) → WK 81 [(0, .ref (g.2.2 45)), (1, .int a1), (3, .int y8), (4, .int y9), (5, .long y14), (7, .int y11), (8, .int y16), (9, .int y17)] [] s18)) h (fun _ _ _ h => nomatch h) (fun J81 hJ81 y16 y17 s18 h => ?_) (fun J81 hJ81 h => ?_)
          ·
            unfold mX11_letter_81 at h
            refine k_iload C (dk dX11_letter_1 14 rfl) 7 rfl ?_
            refine k_bipush (v := (36 : Int32)) C (dk dX11_letter_1 15 rfl) (by decide) ?_
            refine k_icmp_ge (tgt := 140) C (dk dX11_letter_1 16 rfl) (by decide) h (fun h => ?_) (fun h => ?_)
            ·
              refine k_iload C (dk dX11_letter_2 9 rfl) 6 rfl ?_
              refine kl_J (P := (fun J158 => ∀ (y19 : Int32) (s20 : St), J158 y19 s20 = some (v, σe) → WK 158 [(0, .ref (g.2.2 45)), (1, .int a1), (4, .int y9), (5, .long y14), (7, .int y11), (8, .int y16)] [.int y19] s20)) h (fun y19 s20 h => ?_) (fun J158 hJ158 h => ?_)
              ·
                unfold mX11_letter_158 at h
                refine k_istore_n (lv' := [(3, .int y19), (0, .ref (g.2.2 45)), (1, .int a1), (4, .int y9), (5, .long y14), (7, .int y11), (8, .int y16)]) C (dk dX11_letter_2 17 rfl) rfl (by decide) rfl ?_
                refine k_iload C (dk dX11_letter_2 18 rfl) 6 rfl ?_
                refine kl_J (P := (fun J178 => ∀ (y21 : Int32) (s22 : St), J178 y21 s22 = some (v, σe) → WK 178 [(0, .ref (g.2.2 45)), (1, .int a1), (3, .int y19), (5, .long y14), (7, .int y11)] [.int y21] s22)) h (fun y21 s22 h => ?_) (fun J178 hJ178 h => ?_)
                ·
                  unfold mX11_letter_178 at h
                  refine k_istore (lv' := [(4, .int y21), (0, .ref (g.2.2 45)), (1, .int a1), (3, .int y19), (5, .long y14), (7, .int y11)]) C (dk dX11_letter_2 26 rfl) (by decide) rfl ?_
                  refine k_iinc (lv' := [(7, .int (y11 + 1)), (4, .int y21), (0, .ref (g.2.2 45)), (1, .int a1), (3, .int y19), (5, .long y14)]) C (dk dX11_letter_2 27 rfl) (j := 5) rfl rfl (by decide) rfl ?_
                  refine k_goto (tgt := 39) C (dk dX11_letter_2 28 rfl) (by decide) ?_
                  refine k_sub C [2, 3, 4, 1, 5, 0] rfl ?_
                  exact hJ39 _ _ _ _ _ h
                ·
                  refine kl_J (P := (fun J176 => ∀ (s23 : St), J176 s23 = some (v, σe) → WK 176 [(0, .ref (g.2.2 45)), (1, .int a1), (3, .int y19), (4, .int y9), (5, .long y14), (7, .int y11)] [] s23)) h (fun s23 h => ?_) (fun J176 hJ176 h => ?_)
                  ·
                    unfold mX11_letter_176 at h
                    refine k_iload C (dk dX11_letter_2 25 rfl) 3 rfl ?_
                    refine k_sub C [0, 1, 2, 4, 5] rfl ?_
                    exact hJ178 _ _ h
                  ·
                    refine k_if_le (tgt := 176) C (dk dX11_letter_2 19 rfl) (by decide) h (fun h => ?_) (fun h => ?_)
                    ·
                      refine k_sub C [1, 2, 0, 3, 4, 5] rfl ?_
                      exact hJ176 _ h
                    ·
                      refine k_iload C (dk dX11_letter_2 20 rfl) 6 rfl ?_
                      refine k_iload C (dk dX11_letter_2 21 rfl) 3 rfl ?_
                      refine k_icmp_ge (tgt := 176) C (dk dX11_letter_2 22 rfl) (by decide) h (fun h => ?_) (fun h => ?_)
                      ·
                        refine k_sub C [1, 2, 0, 3, 4, 5] rfl ?_
                        exact hJ176 _ h
                      ·
                        refine k_iload C (dk dX11_letter_2 23 rfl) 6 rfl ?_
                        refine k_goto (tgt := 178) C (dk dX11_letter_2 24 rfl) (by decide) ?_
                        refine k_sub C [1, 2, 0, 4, 5] rfl ?_
                        exact hJ178 _ _ h
              ·
                refine kl_J (P := (fun J157 => ∀ (s24 : St), J157 s24 = some (v, σe) → WK 157 [(0, .ref (g.2.2 45)), (1, .int a1), (3, .int y8), (4, .int y9), (5, .long y14), (7, .int y11), (8, .int y16)] [] s24)) h (fun s24 h => ?_) (fun J157 hJ157 h => ?_)
                ·
                  unfold mX11_letter_157 at h
                  refine k_iload_n C (dk dX11_letter_2 16 rfl) rfl 2 rfl ?_
                  refine k_sub C [0, 1, 3, 4, 5, 6] rfl ?_
                  exact hJ158 _ _ h
                ·
                  refine k_if_le (tgt := 157) C (dk dX11_letter_2 10 rfl) (by decide) h (fun h => ?_) (fun h => ?_)
                  ·
                    refine k_sub C [0, 1, 2, 3, 4, 5, 6] rfl ?_
                    exact hJ157 _ h
                  ·
                    refine k_iload C (dk dX11_letter_2 11 rfl) 6 rfl ?_
                    refine k_iload C (dk dX11_letter_2 12 rfl) 3 rfl ?_
                    refine k_icmp_ge (tgt := 157) C (dk dX11_letter_2 13 rfl) (by decide) h (fun h => ?_) (fun h => ?_)
                    ·
                      refine k_sub C [0, 1, 2, 3, 4, 5, 6] rfl ?_
                      exact hJ157 _ h
                    ·
                      refine k_iload C (dk dX11_letter_2 14 rfl) 5 rfl ?_
                      refine k_goto (tgt := 158) C (dk dX11_letter_2 15 rfl) (by decide) ?_
                      refine k_sub C [0, 1, 3, 4, 5, 6] rfl ?_
                      exact hJ158 _ _ h
            ·
              refine k_lload C (dk dX11_letter_1 17 rfl) 4 rfl ?_
              refine k_iload C (dk dX11_letter_1 18 rfl) 7 rfl ?_
              refine cl2_k h (fun x26 s25 hc h => ?_)
              refine k_cs (As := [.long y14, .int y17]) (st := []) C (qX11_isOn l g hg hc) (iW15 _ (List.mem_of_getElem? (i := 12) rfl)) (iW15 _ (List.mem_of_getElem? (i := 13) rfl)) (iW0 _ (List.mem_of_getElem? (i := 5) rfl)) (iW15 _ (List.mem_of_getElem? (i := 14) rfl)) rfl rfl hdX11_isOn (by decide) rfl rfl (Nat.le_of_ble_eq_true rfl) (dk dX11_letter_1 19 rfl) ?_
              refine kl_J (P := (fun J116 => ∀ (y27 : Int32) (s28 : St), J116 y27 s28 = some (v, σe) → WK 116 [(0, .ref (g.2.2 45)), (1, .int a1), (3, .int y8), (4, .int y9), (5, .long y14), (7, .int y11), (8, .int y16), (9, .int y17)] [.int y27] s28)) h (fun y27 s28 h => ?_) (fun J116 hJ116 h => ?_)
              ·
                unfold mX11_letter_116 at h
                refine k_istore (lv' := [(10, .int y27), (0, .ref (g.2.2 45)), (1, .int a1), (3, .int y8), (4, .int y9), (5, .long y14), (7, .int y11), (8, .int y16), (9, .int y17)]) C (dk dX11_letter_1 31 rfl) (by decide) rfl ?_
                refine k_iload C (dk dX11_letter_2 0 rfl) 0 rfl ?_
                refine k_iload C (dk dX11_letter_2 1 rfl) 7 rfl ?_
                refine kl_J (P := (fun J132 => ∀ (y29 : Int32) (s30 : St), J132 y29 s30 = some (v, σe) → WK 132 [(0, .ref (g.2.2 45)), (1, .int a1), (3, .int y8), (4, .int y9), (5, .long y14), (7, .int y11), (9, .int y17)] [.int y29] s30)) h (fun y29 s30 h => ?_) (fun J132 hJ132 h => ?_)
                ·
                  unfold mX11_letter_132 at h
                  refine k_istore (lv' := [(8, .int y29), (0, .ref (g.2.2 45)), (1, .int a1), (3, .int y8), (4, .int y9), (5, .long y14), (7, .int y11), (9, .int y17)]) C (dk dX11_letter_2 6 rfl) (by decide) rfl ?_
                  refine k_iinc (lv' := [(9, .int (y17 + 1)), (8, .int y29), (0, .ref (g.2.2 45)), (1, .int a1), (3, .int y8), (4, .int y9), (5, .long y14), (7, .int y11)]) C (dk dX11_letter_2 7 rfl) (j := 7) rfl rfl (by decide) rfl ?_
                  refine k_goto (tgt := 81) C (dk dX11_letter_2 8 rfl) (by decide) ?_
                  refine k_sub C [2, 3, 4, 5, 6, 7, 1, 0] rfl ?_
                  exact hJ81 _ _ _ h
                ·
                  refine k_icmp_le (tgt := 130) C (dk dX11_letter_2 2 rfl) (by decide) h (fun h => ?_) (fun h => ?_)
                  ·
                    refine k_iload C (dk dX11_letter_2 5 rfl) 7 rfl ?_
                    refine k_sub C [1, 2, 3, 4, 5, 6, 8] rfl ?_
                    exact hJ132 _ _ h
                  ·
                    refine k_iload C (dk dX11_letter_2 3 rfl) 0 rfl ?_
                    refine k_goto (tgt := 132) C (dk dX11_letter_2 4 rfl) (by decide) ?_
                    refine k_sub C [1, 2, 3, 4, 5, 6, 8] rfl ?_
                    exact hJ132 _ _ h
              ·
                refine k_if_eq (tgt := 115) C (dk dX11_letter_1 20 rfl) (by decide) h (fun h => ?_) (fun h => ?_)
                ·
                  refine k_iconst (v := (0 : Int32)) C (dk dX11_letter_1 30 rfl) (by decide) ?_
                  exact hJ116 _ _ h
                ·
                  refine k_aload_n C (dk dX11_letter_1 21 rfl) rfl 0 rfl ?_
                  refine k_iload_n C (dk dX11_letter_1 22 rfl) rfl 1 rfl ?_
                  refine k_iload C (dk dX11_letter_1 23 rfl) 5 rfl ?_
                  refine k_lconst (v := (1 : Int64)) C (dk dX11_letter_1 24 rfl) (by decide) ?_
                  refine k_iload C (dk dX11_letter_1 25 rfl) 7 rfl ?_
                  refine k_lshl C (dk dX11_letter_1 26 rfl) ?_
                  refine cl2_k h (fun x32 s31 hc h => ?_)
                  refine k_cv (T := TX11) (N := 39) (ci := 6) (ob := 45) (As := [.int a1, .int y11, .long ((1 : Int64) <<< (y17.toInt64 &&& 63))]) (st := []) C (qX11_toTheLast l g hg hc) (iW26 _ (List.mem_of_getElem? (i := 24) rfl)) (iW26 _ (List.mem_of_getElem? (i := 25) rfl)) (iW26 _ (List.mem_of_getElem? (i := 26) rfl)) (iW0 _ (List.mem_of_getElem? (i := 5) rfl)) (iW26 _ (List.mem_of_getElem? (i := 27) rfl)) rfl rfl hdX11_toTheLast (by decide) rfl (by decide) rfl rfl rfl (Nat.le_of_ble_eq_true rfl) (dk dX11_letter_1 27 rfl) ?_
                  refine cl2_k h (fun x34 s33 hc h => ?_)
                  refine k_cs (As := [.long x32]) (st := []) C (qX11_onesOf l g hg hc) (iW18 _ (List.mem_of_getElem? (i := 19) rfl)) (iW18 _ (List.mem_of_getElem? (i := 20) rfl)) (iW0 _ (List.mem_of_getElem? (i := 5) rfl)) (iW18 _ (List.mem_of_getElem? (i := 21) rfl)) rfl rfl hdX11_onesOf (by decide) rfl rfl (Nat.le_of_ble_eq_true rfl) (dk dX11_letter_1 28 rfl) ?_
                  refine k_goto (tgt := 116) C (dk dX11_letter_1 29 rfl) (by decide) ?_
                  exact hJ116 _ _ h
          ·
            refine k_sub C [3, 4, 5, 6, 2, 7, 1, 0] rfl ?_
            exact hJ81 _ _ _ h
        ·
          refine k_if_ne (tgt := 60) C (dk dX11_letter_0 31 rfl) (by decide) h (fun h => ?_) (fun h => ?_)
          ·
            refine k_aload_n C (dk dX11_letter_1 2 rfl) rfl 0 rfl ?_
            refine k_iload_n C (dk dX11_letter_1 3 rfl) rfl 1 rfl ?_
            refine k_iload C (dk dX11_letter_1 4 rfl) 5 rfl ?_
            refine k_aload_n C (dk dX11_letter_1 5 rfl) rfl 0 rfl ?_
            refine k_lload C (dk dX11_letter_1 6 rfl) 4 rfl ?_
            refine cl2_k h (fun x36 s35 hc h => ?_)
            refine k_cv (T := TX11) (N := 39) (ci := 6) (ob := 45) (As := [.long y10]) (st := [.int y11, .int a1, .ref (g.2.2 45)]) C (qX11_goOn l g hg hc) (iW15 _ (List.mem_of_getElem? (i := 15) rfl)) (iW15 _ (List.mem_of_getElem? (i := 16) rfl)) (iW15 _ (List.mem_of_getElem? (i := 17) rfl)) (iW0 _ (List.mem_of_getElem? (i := 5) rfl)) (iW15 _ (List.mem_of_getElem? (i := 18) rfl)) rfl rfl hdX11_goOn (by decide) rfl (by decide) rfl rfl rfl (Nat.le_of_ble_eq_true rfl) (dk dX11_letter_1 7 rfl) ?_
            refine cl2_k h (fun x38 s37 hc h => ?_)
            refine k_cv (T := TX11) (N := 39) (ci := 6) (ob := 45) (As := [.int a1, .int y11, .long x36]) (st := []) C (qX11_notOff l g hg hc) (iW26 _ (List.mem_of_getElem? (i := 20) rfl)) (iW26 _ (List.mem_of_getElem? (i := 21) rfl)) (iW26 _ (List.mem_of_getElem? (i := 22) rfl)) (iW0 _ (List.mem_of_getElem? (i := 5) rfl)) (iW26 _ (List.mem_of_getElem? (i := 23) rfl)) rfl rfl hdX11_notOff (by decide) rfl (by decide) rfl rfl rfl (Nat.le_of_ble_eq_true rfl) (dk dX11_letter_1 8 rfl) ?_
            refine k_sub C [0, 1, 2, 3, 5] rfl ?_
            exact hJ73 _ _ h
          ·
            refine k_lload C (dk dX11_letter_1 0 rfl) 4 rfl ?_
            refine k_goto (tgt := 73) C (dk dX11_letter_1 1 rfl) (by decide) ?_
            refine k_sub C [0, 1, 2, 3, 5] rfl ?_
            exact hJ73 _ _ h
    ·
      refine k_sub C [5, 6, 3, 2, 1, 0] rfl ?_
      exact hJ39 _ _ _ _ _ h
  ·
    refine k_iload_n C (dk dX11_letter_0 9 rfl) rfl 0 rfl ?_
    exact k_iret E (dk dX11_letter_0 10 rfl) h
set_option maxRecDepth 100000 in
set_option maxHeartbeats 4000000 in
theorem qX11_third (l : Launch) (g : G) (hg : gOK g) {a1 : Int32}  {s0 σe : St} {v : Int32} (h : mX11_third a1 s0 = some (v, σe)) : Mc l g yX11_third cX11_third 6 (some .int) { frames := 3, cells := 0, slots := 0, locals := 65 } [.ref (g.2.2 45), .int a1] s0 (some (.int v)) σe := by
  refine k_enter hg pnRX11 rfl (Nat.le_of_ble_eq_true rfl) ?_
  intro WK E
  have C := kX_y E
  unfold mX11_third at h
  show WK 0 [(0, .ref (g.2.2 45)), (1, .int a1)] [] s0
  refine k_aload_n C (dk dX11_third_0 0 rfl) rfl 0 rfl ?_
  refine k_iconst (v := (0 : Int32)) C (dk dX11_third_0 1 rfl) (by decide) ?_
  refine k_putI (D := RX11) (T := TX11) (N := 39) (ci := 6) (k := 16) C iCX11 tyX11_ok nmX11 rfl (by decide) rfl (by decide) (iW3 _ (List.mem_of_getElem? (i := 20) rfl)) rfl rfl flq6_16 flp6_16 (dk dX11_third_0 2 rfl) h (fun s1 h => ?_)
  refine k_iload_n C (dk dX11_third_0 3 rfl) rfl 1 rfl ?_
  refine k_i2l C (dk dX11_third_0 4 rfl) ?_
  refine k_lconst (v := (0 : Int64)) C (dk dX11_third_0 5 rfl) (by decide) ?_
  refine k_lconst (v := (1 : Int64)) C (dk dX11_third_0 6 rfl) (by decide) ?_
  refine cl2_k h (fun x3 s2 hc h => ?_)
  refine k_cs (As := [.long a1.toInt64, .long (0 : Int64), .long (1 : Int64)]) (st := []) C (qX11_in l g hg hc) (iW8 _ (List.mem_of_getElem? (i := 16) rfl)) (iW8 _ (List.mem_of_getElem? (i := 17) rfl)) (iW0 _ (List.mem_of_getElem? (i := 5) rfl)) (iW8 _ (List.mem_of_getElem? (i := 18) rfl)) rfl rfl hdX11_in (by decide) rfl rfl (Nat.le_of_ble_eq_true rfl) (dk dX11_third_0 7 rfl) ?_
  refine k_if_ne (tgt := 17) C (dk dX11_third_0 8 rfl) (by decide) h (fun h => ?_) (fun h => ?_)
  ·
    refine k_aload_n C (dk dX11_third_0 11 rfl) rfl 0 rfl ?_
    refine cl2_k h (fun x5 s4 hc h => ?_)
    refine k_cv (T := TX11) (N := 39) (ci := 6) (ob := 45) (As := []) (st := []) C (qX11_areBoth l g hg hc) (iW21 _ (List.mem_of_getElem? (i := 6) rfl)) (iW21 _ (List.mem_of_getElem? (i := 7) rfl)) (iW21 _ (List.mem_of_getElem? (i := 8) rfl)) (iW0 _ (List.mem_of_getElem? (i := 5) rfl)) (iW21 _ (List.mem_of_getElem? (i := 9) rfl)) rfl rfl hdX11_areBoth (by decide) rfl (by decide) rfl rfl rfl (Nat.le_of_ble_eq_true rfl) (dk dX11_third_0 12 rfl) ?_
    refine k_if_ne (tgt := 27) C (dk dX11_third_0 13 rfl) (by decide) h (fun h => ?_) (fun h => ?_)
    ·
      refine k_iconst (v := (0 : Int32)) C (dk dX11_third_0 16 rfl) (by decide) ?_
      refine k_istore_n (lv' := [(2, .int (0 : Int32)), (0, .ref (g.2.2 45)), (1, .int a1)]) C (dk dX11_third_0 17 rfl) rfl (by decide) rfl ?_
      refine k_bipush (v := (-4 : Int32)) C (dk dX11_third_0 18 rfl) (by decide) ?_
      refine k_istore_n (lv' := [(3, .int (-4 : Int32)), (2, .int (0 : Int32)), (0, .ref (g.2.2 45)), (1, .int a1)]) C (dk dX11_third_0 19 rfl) rfl (by decide) rfl ?_
      refine k_iconst (v := (0 : Int32)) C (dk dX11_third_0 20 rfl) (by decide) ?_
      refine k_istore (lv' := [(4, .int (0 : Int32)), (3, .int (-4 : Int32)), (2, .int (0 : Int32)), (0, .ref (g.2.2 45)), (1, .int a1)]) C (dk dX11_third_0 21 rfl) (by decide) rfl ?_
      refine kl_L (P := (fun J35 => ∀ (y6 : Int32) (y7 : Int32) (y8 : Int32) (s9 : St), J35 y6 y7 y8 s9 = some (v, σe) → WK 35 [(0, .ref (g.2.2 45)), (1, .int a1), (2, .int y6), (3, .int y7), (4, .int y8)] [] s9)) h (fun _ _ _ _ h => nomatch h) (fun J35 hJ35 y6 y7 y8 s9 h => ?_) (fun J35 hJ35 h => ?_)
      ·
        unfold mX11_third_35 at h
        refine k_iload C (dk dX11_third_0 22 rfl) 4 rfl ?_
        refine k_bipush (v := (36 : Int32)) C (dk dX11_third_0 23 rfl) (by decide) ?_
        refine k_icmp_ge (tgt := 119) C (dk dX11_third_0 24 rfl) (by decide) h (fun h => ?_) (fun h => ?_)
        ·
          refine k_iload_n C (dk dX11_third_1 31 rfl) rfl 1 rfl ?_
          refine k_if_ne (tgt := 127) C (dk dX11_third_2 0 rfl) (by decide) h (fun h => ?_) (fun h => ?_)
          ·
            refine k_iload_n C (dk dX11_third_2 3 rfl) rfl 3 rfl ?_
            exact k_iret E (dk dX11_third_2 4 rfl) h
          ·
            refine k_iload_n C (dk dX11_third_2 1 rfl) rfl 2 rfl ?_
            refine k_goto (tgt := 128) C (dk dX11_third_2 2 rfl) (by decide) ?_
            exact k_iret E (dk dX11_third_2 4 rfl) h
        ·
          refine k_aload_n C (dk dX11_third_0 25 rfl) rfl 0 rfl ?_
          refine k_iload C (dk dX11_third_0 26 rfl) 4 rfl ?_
          refine cl2_k h (fun x11 s10 hc h => ?_)
          refine k_cv (T := TX11) (N := 39) (ci := 6) (ob := 45) (As := [.int y8]) (st := []) C (qX11_isOpen l g hg hc) (iW10 _ (List.mem_of_getElem? (i := 6) rfl)) (iW10 _ (List.mem_of_getElem? (i := 7) rfl)) (iW10 _ (List.mem_of_getElem? (i := 8) rfl)) (iW0 _ (List.mem_of_getElem? (i := 5) rfl)) (iW10 _ (List.mem_of_getElem? (i := 9) rfl)) rfl rfl hdX11_isOpen (by decide) rfl (by decide) rfl rfl rfl (Nat.le_of_ble_eq_true rfl) (dk dX11_third_0 27 rfl) ?_
          refine kl_J (P := (fun J82 => ∀ (y12 : Int32) (s13 : St), J82 y12 s13 = some (v, σe) → WK 82 [(0, .ref (g.2.2 45)), (1, .int a1), (2, .int y6), (3, .int y7), (4, .int y8)] [.int y12] s13)) h (fun y12 s13 h => ?_) (fun J82 hJ82 h => ?_)
          ·
            unfold mX11_third_82 at h
            refine k_istore (lv' := [(5, .int y12), (0, .ref (g.2.2 45)), (1, .int a1), (2, .int y6), (3, .int y7), (4, .int y8)]) C (dk dX11_third_1 12 rfl) (by decide) rfl ?_
            refine k_iload_n C (dk dX11_third_1 13 rfl) rfl 3 rfl ?_
            refine k_iload C (dk dX11_third_1 14 rfl) 0 rfl ?_
            refine kl_J (P := (fun J95 => ∀ (y14 : Int32) (s15 : St), J95 y14 s15 = some (v, σe) → WK 95 [(0, .ref (g.2.2 45)), (1, .int a1), (3, .int y7), (4, .int y8), (5, .int y12)] [.int y14, .int y6] s15)) h (fun y14 s15 h => ?_) (fun J95 hJ95 h => ?_)
            ·
              unfold mX11_third_95 at h
              refine k_iadd C (dk dX11_third_1 19 rfl) ?_
              refine nmI h (fun x16 h => ?_)
              refine k_istore_n (lv' := [(2, .int x16), (0, .ref (g.2.2 45)), (1, .int a1), (3, .int y7), (4, .int y8), (5, .int y12)]) C (dk dX11_third_1 20 rfl) rfl (by decide) rfl ?_
              refine k_iload C (dk dX11_third_1 21 rfl) 5 rfl ?_
              refine kl_J (P := (fun J112 => ∀ (y17 : Int32) (s18 : St), J112 y17 s18 = some (v, σe) → WK 112 [(0, .ref (g.2.2 45)), (1, .int a1), (2, .int x16), (4, .int y8)] [.int y17] s18)) h (fun y17 s18 h => ?_) (fun J112 hJ112 h => ?_)
              ·
                unfold mX11_third_112 at h
                refine k_istore_n (lv' := [(3, .int y17), (0, .ref (g.2.2 45)), (1, .int a1), (2, .int x16), (4, .int y8)]) C (dk dX11_third_1 28 rfl) rfl (by decide) rfl ?_
                refine k_iinc (lv' := [(4, .int (y8 + 1)), (3, .int y17), (0, .ref (g.2.2 45)), (1, .int a1), (2, .int x16)]) C (dk dX11_third_1 29 rfl) (j := 4) rfl rfl (by decide) rfl ?_
                refine k_goto (tgt := 35) C (dk dX11_third_1 30 rfl) (by decide) ?_
                refine k_sub C [2, 3, 4, 1, 0] rfl ?_
                exact hJ35 _ _ _ _ h
              ·
                refine kl_J (P := (fun J111 => ∀ (s19 : St), J111 s19 = some (v, σe) → WK 111 [(0, .ref (g.2.2 45)), (1, .int a1), (2, .int x16), (3, .int y7), (4, .int y8)] [] s19)) h (fun s19 h => ?_) (fun J111 hJ111 h => ?_)
                ·
                  unfold mX11_third_111 at h
                  refine k_iload_n C (dk dX11_third_1 27 rfl) rfl 3 rfl ?_
                  refine k_sub C [0, 1, 2, 4] rfl ?_
                  exact hJ112 _ _ h
                ·
                  refine k_if_eq (tgt := 111) C (dk dX11_third_1 22 rfl) (by decide) h (fun h => ?_) (fun h => ?_)
                  ·
                    refine k_sub C [1, 2, 0, 3, 4] rfl ?_
                    exact hJ111 _ h
                  ·
                    refine k_iload_n C (dk dX11_third_1 23 rfl) rfl 3 rfl ?_
                    refine k_if_ge (tgt := 111) C (dk dX11_third_1 24 rfl) (by decide) h (fun h => ?_) (fun h => ?_)
                    ·
                      refine k_sub C [1, 2, 0, 3, 4] rfl ?_
                      exact hJ111 _ h
                    ·
                      refine k_iload C (dk dX11_third_1 25 rfl) 4 rfl ?_
                      refine k_goto (tgt := 112) C (dk dX11_third_1 26 rfl) (by decide) ?_
                      refine k_sub C [1, 2, 0, 4] rfl ?_
                      exact hJ112 _ _ h
            ·
              refine k_if_eq (tgt := 94) C (dk dX11_third_1 15 rfl) (by decide) h (fun h => ?_) (fun h => ?_)
              ·
                refine k_iconst (v := (0 : Int32)) C (dk dX11_third_1 18 rfl) (by decide) ?_
                refine k_sub C [1, 2, 4, 5, 0] rfl ?_
                exact hJ95 _ _ h
              ·
                refine k_iconst (v := (1 : Int32)) C (dk dX11_third_1 16 rfl) (by decide) ?_
                refine k_goto (tgt := 95) C (dk dX11_third_1 17 rfl) (by decide) ?_
                refine k_sub C [1, 2, 4, 5, 0] rfl ?_
                exact hJ95 _ _ h
          ·
            refine kl_J (P := (fun J81 => ∀ (s20 : St), J81 s20 = some (v, σe) → WK 81 [(0, .ref (g.2.2 45)), (1, .int a1), (2, .int y6), (3, .int y7), (4, .int y8)] [] s20)) h (fun s20 h => ?_) (fun J81 hJ81 h => ?_)
            ·
              unfold mX11_third_81 at h
              refine k_iconst (v := (0 : Int32)) C (dk dX11_third_1 11 rfl) (by decide) ?_
              exact hJ82 _ _ h
            ·
              refine k_if_eq (tgt := 81) C (dk dX11_third_0 28 rfl) (by decide) h (fun h => ?_) (fun h => ?_)
              ·
                exact hJ81 _ h
              ·
                refine k_aload_n C (dk dX11_third_0 29 rfl) rfl 0 rfl ?_
                refine k_aload_n C (dk dX11_third_0 30 rfl) rfl 0 rfl ?_
                refine k_getI (D := RX11) (T := TX11) (N := 39) (ci := 6) (k := 5) C iCX11 rfl (by decide) rfl (by decide) (iW2 _ (List.mem_of_getElem? (i := 29) rfl)) rfl (dk dX11_third_0 31 rfl) h (fun x21 h => ?_)
                refine k_iload C (dk dX11_third_1 0 rfl) 4 rfl ?_
                refine cl2_k h (fun x23 s22 hc h => ?_)
                refine k_cv (T := TX11) (N := 39) (ci := 6) (ob := 45) (As := [.int x21, .int y8]) (st := []) C (qX11_isOff l g hg hc) (iW17 _ (List.mem_of_getElem? (i := 12) rfl)) (iW17 _ (List.mem_of_getElem? (i := 13) rfl)) (iW17 _ (List.mem_of_getElem? (i := 14) rfl)) (iW0 _ (List.mem_of_getElem? (i := 5) rfl)) (iW17 _ (List.mem_of_getElem? (i := 15) rfl)) rfl rfl hdX11_isOff (by decide) rfl (by decide) rfl rfl rfl (Nat.le_of_ble_eq_true rfl) (dk dX11_third_1 1 rfl) ?_
                refine k_if_ne (tgt := 81) C (dk dX11_third_1 2 rfl) (by decide) h (fun h => ?_) (fun h => ?_)
                ·
                  exact hJ81 _ h
                ·
                  refine k_aload_n C (dk dX11_third_1 3 rfl) rfl 0 rfl ?_
                  refine k_aload_n C (dk dX11_third_1 4 rfl) rfl 0 rfl ?_
                  refine k_getI (D := RX11) (T := TX11) (N := 39) (ci := 6) (k := 6) C iCX11 rfl (by decide) rfl (by decide) (iW3 _ (List.mem_of_getElem? (i := 0) rfl)) rfl (dk dX11_third_1 5 rfl) h (fun x24 h => ?_)
                  refine k_iload C (dk dX11_third_1 6 rfl) 4 rfl ?_
                  refine cl2_k h (fun x26 s25 hc h => ?_)
                  refine k_cv (T := TX11) (N := 39) (ci := 6) (ob := 45) (As := [.int x24, .int y8]) (st := []) C (qX11_isOff l g hg hc) (iW17 _ (List.mem_of_getElem? (i := 12) rfl)) (iW17 _ (List.mem_of_getElem? (i := 13) rfl)) (iW17 _ (List.mem_of_getElem? (i := 14) rfl)) (iW0 _ (List.mem_of_getElem? (i := 5) rfl)) (iW17 _ (List.mem_of_getElem? (i := 15) rfl)) rfl rfl hdX11_isOff (by decide) rfl (by decide) rfl rfl rfl (Nat.le_of_ble_eq_true rfl) (dk dX11_third_1 7 rfl) ?_
                  refine k_if_ne (tgt := 81) C (dk dX11_third_1 8 rfl) (by decide) h (fun h => ?_) (fun h => ?_)
                  ·
                    exact hJ81 _ h
                  ·
                    refine k_iconst (v := (1 : Int32)) C (dk dX11_third_1 9 rfl) (by decide) ?_
                    refine k_goto (tgt := 82) C (dk dX11_third_1 10 rfl) (by decide) ?_
                    exact hJ82 _ _ h
      ·
        refine k_sub C [3, 4, 2, 1, 0] rfl ?_
        exact hJ35 _ _ _ _ h
    ·
      refine k_bipush (v := (-3 : Int32)) C (dk dX11_third_0 14 rfl) (by decide) ?_
      exact k_iret E (dk dX11_third_0 15 rfl) h
  ·
    refine k_iconst (v := (-1 : Int32)) C (dk dX11_third_0 9 rfl) (by decide) ?_
    exact k_iret E (dk dX11_third_0 10 rfl) h
set_option maxRecDepth 100000 in
set_option maxHeartbeats 4000000 in
theorem qX11_farBy (l : Launch) (g : G) (hg : gOK g) {a1 : Int32} {a2 : Int32}  {s0 σe : St} {v : Int32} (h : mX11_farBy a1 a2 s0 = some (v, σe)) : Mc l g yX11_farBy cX11_farBy 5 (some .int) { frames := 2, cells := 0, slots := 0, locals := 44 } [.ref (g.2.2 45), .int a1, .int a2] s0 (some (.int v)) σe := by
  refine k_enter hg pnRX11 rfl (Nat.le_of_ble_eq_true rfl) ?_
  intro WK E
  have C := kX_y E
  unfold mX11_farBy at h
  show WK 0 [(0, .ref (g.2.2 45)), (1, .int a1), (2, .int a2)] [] s0
  refine k_aload_n C (dk dX11_farBy_0 0 rfl) rfl 0 rfl ?_
  refine k_aload_n C (dk dX11_farBy_0 1 rfl) rfl 0 rfl ?_
  refine k_getI (D := RX11) (T := TX11) (N := 39) (ci := 6) (k := 5) C iCX11 rfl (by decide) rfl (by decide) (iW2 _ (List.mem_of_getElem? (i := 29) rfl)) rfl (dk dX11_farBy_0 2 rfl) h (fun x1 h => ?_)
  refine k_iload_n C (dk dX11_farBy_0 3 rfl) rfl 1 rfl ?_
  refine cl2_k h (fun x3 s2 hc h => ?_)
  refine k_cv (T := TX11) (N := 39) (ci := 6) (ob := 45) (As := [.int x1, .int a1]) (st := []) C (qX11_goneTo l g hg hc) (iW9 _ (List.mem_of_getElem? (i := 29) rfl)) (iW10 _ (List.mem_of_getElem? (i := 0) rfl)) (iW10 _ (List.mem_of_getElem? (i := 1) rfl)) (iW0 _ (List.mem_of_getElem? (i := 5) rfl)) (iW10 _ (List.mem_of_getElem? (i := 2) rfl)) rfl rfl hdX11_goneTo (by decide) rfl (by decide) rfl rfl rfl (Nat.le_of_ble_eq_true rfl) (dk dX11_farBy_0 4 rfl) ?_
  refine k_istore_n (lv' := [(3, .int x3), (0, .ref (g.2.2 45)), (1, .int a1), (2, .int a2)]) C (dk dX11_farBy_0 5 rfl) rfl (by decide) rfl ?_
  refine k_aload_n C (dk dX11_farBy_0 6 rfl) rfl 1 rfl ?_
  refine k_aload_n C (dk dX11_farBy_0 7 rfl) rfl 1 rfl ?_
  refine k_getI (D := RX11) (T := TX11) (N := 39) (ci := 6) (k := 6) C iCX11 rfl (by decide) rfl (by decide) (iW3 _ (List.mem_of_getElem? (i := 0) rfl)) rfl (dk dX11_farBy_0 8 rfl) h (fun x4 h => ?_)
  refine k_iload_n C (dk dX11_farBy_0 9 rfl) rfl 3 rfl ?_
  refine cl2_k h (fun x6 s5 hc h => ?_)
  refine k_cv (T := TX11) (N := 39) (ci := 6) (ob := 45) (As := [.int x4, .int a2]) (st := []) C (qX11_goneTo l g hg hc) (iW9 _ (List.mem_of_getElem? (i := 29) rfl)) (iW10 _ (List.mem_of_getElem? (i := 0) rfl)) (iW10 _ (List.mem_of_getElem? (i := 1) rfl)) (iW0 _ (List.mem_of_getElem? (i := 5) rfl)) (iW10 _ (List.mem_of_getElem? (i := 2) rfl)) rfl rfl hdX11_goneTo (by decide) rfl (by decide) rfl rfl rfl (Nat.le_of_ble_eq_true rfl) (dk dX11_farBy_0 10 rfl) ?_
  refine k_istore (lv' := [(4, .int x6), (3, .int x3), (0, .ref (g.2.2 45)), (1, .int a1), (2, .int a2)]) C (dk dX11_farBy_0 11 rfl) (by decide) rfl ?_
  refine k_iload_n C (dk dX11_farBy_0 12 rfl) rfl 1 rfl ?_
  refine kl_J (P := (fun J30 => ∀ (s7 : St), J30 s7 = some (v, σe) → WK 30 [] [] s7)) h (fun s7 h => ?_) (fun J30 hJ30 h => ?_)
  ·
    unfold mX11_farBy_30 at h
    refine k_iconst (v := (-1 : Int32)) C (dk dX11_farBy_0 16 rfl) (by decide) ?_
    refine k_goto (tgt := 41) C (dk dX11_farBy_0 17 rfl) (by decide) ?_
    exact k_iret E (dk dX11_farBy_0 22 rfl) h
  ·
    refine k_if_lt (tgt := 30) C (dk dX11_farBy_0 13 rfl) (by decide) h (fun h => ?_) (fun h => ?_)
    ·
      refine k_sub C [] rfl ?_
      exact hJ30 _ h
    ·
      refine k_iload C (dk dX11_farBy_0 14 rfl) 0 rfl ?_
      refine k_if_ge (tgt := 34) C (dk dX11_farBy_0 15 rfl) (by decide) h (fun h => ?_) (fun h => ?_)
      ·
        refine k_aload_n C (dk dX11_farBy_0 18 rfl) rfl 2 rfl ?_
        refine k_iload_n C (dk dX11_farBy_0 19 rfl) rfl 1 rfl ?_
        refine k_iload C (dk dX11_farBy_0 20 rfl) 0 rfl ?_
        refine cl2_k h (fun x9 s8 hc h => ?_)
        refine k_cv (T := TX11) (N := 39) (ci := 6) (ob := 45) (As := [.int x3, .int x6]) (st := []) C (qX11_farOf l g hg hc) (iW10 _ (List.mem_of_getElem? (i := 14) rfl)) (iW10 _ (List.mem_of_getElem? (i := 15) rfl)) (iW10 _ (List.mem_of_getElem? (i := 16) rfl)) (iW0 _ (List.mem_of_getElem? (i := 5) rfl)) (iW10 _ (List.mem_of_getElem? (i := 17) rfl)) rfl rfl hdX11_farOf (by decide) rfl (by decide) rfl rfl rfl (Nat.le_of_ble_eq_true rfl) (dk dX11_farBy_0 21 rfl) ?_
        exact k_iret E (dk dX11_farBy_0 22 rfl) h
      ·
        refine k_sub C [] rfl ?_
        exact hJ30 _ h
set_option maxRecDepth 100000 in
set_option maxHeartbeats 4000000 in
theorem qX11_rests (l : Launch) (g : G) (hg : gOK g) {a1 : Int32} {a2 : Int32}  {s0 σe : St} {v : Int32} (h : mX11_rests a1 a2 s0 = some (v, σe)) : Mc l g yX11_rests cX11_rests 8 (some .boolean) { frames := 3, cells := 0, slots := 0, locals := 68 } [.ref (g.2.2 45), .int a1, .int a2] s0 (some (.int v)) σe := by
  refine k_enter hg pnRX11 rfl (Nat.le_of_ble_eq_true rfl) ?_
  intro WK E
  have C := kX_y E
  unfold mX11_rests at h
  show WK 0 [(0, .ref (g.2.2 45)), (1, .int a1), (2, .int a2)] [] s0
  refine k_aload_n C (dk dX11_rests_0 0 rfl) rfl 0 rfl ?_
  refine k_iload_n C (dk dX11_rests_0 1 rfl) rfl 1 rfl ?_
  refine k_iload_n C (dk dX11_rests_0 2 rfl) rfl 2 rfl ?_
  refine cl2_k h (fun x2 s1 hc h => ?_)
  refine k_cv (T := TX11) (N := 39) (ci := 6) (ob := 45) (As := [.int a1, .int a2]) (st := []) C (qX11_farBy l g hg hc) (iW29 _ (List.mem_of_getElem? (i := 20) rfl)) (iW29 _ (List.mem_of_getElem? (i := 21) rfl)) (iW29 _ (List.mem_of_getElem? (i := 22) rfl)) (iW0 _ (List.mem_of_getElem? (i := 5) rfl)) (iW29 _ (List.mem_of_getElem? (i := 23) rfl)) rfl rfl hdX11_farBy (by decide) rfl (by decide) rfl rfl rfl (Nat.le_of_ble_eq_true rfl) (dk dX11_rests_0 3 rfl) ?_
  refine k_istore_n (lv' := [(3, .int x2), (0, .ref (g.2.2 45)), (1, .int a1), (2, .int a2)]) C (dk dX11_rests_0 4 rfl) rfl (by decide) rfl ?_
  refine k_iload_n C (dk dX11_rests_0 5 rfl) rfl 0 rfl ?_
  refine kl_J (P := (fun J16 => ∀ (y3 : Int32) (s4 : St), J16 y3 s4 = some (v, σe) → WK 16 [(0, .ref (g.2.2 45)), (1, .int a1), (2, .int a2), (3, .int x2)] [.int y3] s4)) h (fun y3 s4 h => ?_) (fun J16 hJ16 h => ?_)
  ·
    unfold mX11_rests_16 at h
    refine k_istore (lv' := [(4, .int y3), (0, .ref (g.2.2 45)), (1, .int a1), (2, .int a2), (3, .int x2)]) C (dk dX11_rests_0 10 rfl) (by decide) rfl ?_
    refine k_iconst (v := (0 : Int32)) C (dk dX11_rests_0 11 rfl) (by decide) ?_
    refine k_istore (lv' := [(5, .int (0 : Int32)), (4, .int y3), (0, .ref (g.2.2 45)), (1, .int a1), (2, .int a2), (3, .int x2)]) C (dk dX11_rests_0 12 rfl) (by decide) rfl ?_
    refine kl_L (P := (fun J21 => ∀ (y5 : Int32) (y6 : Int32) (s7 : St), J21 y5 y6 s7 = some (v, σe) → WK 21 [(0, .ref (g.2.2 45)), (1, .int a1), (2, .int a2), (3, .int x2), (4, .int y5), (5, .int y6)] [] s7)) h (fun _ _ _ h => nomatch h) (fun J21 hJ21 y5 y6 s7 h => ?_) (fun J21 hJ21 h => ?_)
    ·
      unfold mX11_rests_21 at h
      refine k_iload C (dk dX11_rests_0 13 rfl) 5 rfl ?_
      refine k_iconst (v := (5 : Int32)) C (dk dX11_rests_0 14 rfl) (by decide) ?_
      refine k_icmp_ge (tgt := 85) C (dk dX11_rests_0 15 rfl) (by decide) h (fun h => ?_) (fun h => ?_)
      ·
        refine k_iload C (dk dX11_rests_1 12 rfl) 4 rfl ?_
        exact k_zret E (dk dX11_rests_1 13 rfl) h
      ·
        refine k_aload_n C (dk dX11_rests_0 16 rfl) rfl 0 rfl ?_
        refine k_iload C (dk dX11_rests_0 17 rfl) 5 rfl ?_
        refine k_iload_n C (dk dX11_rests_0 18 rfl) rfl 2 rfl ?_
        refine cl2_k h (fun x9 s8 hc h => ?_)
        refine k_cv (T := TX11) (N := 39) (ci := 6) (ob := 45) (As := [.int y6, .int a2]) (st := []) C (qX11_farBy l g hg hc) (iW29 _ (List.mem_of_getElem? (i := 20) rfl)) (iW29 _ (List.mem_of_getElem? (i := 21) rfl)) (iW29 _ (List.mem_of_getElem? (i := 22) rfl)) (iW0 _ (List.mem_of_getElem? (i := 5) rfl)) (iW29 _ (List.mem_of_getElem? (i := 23) rfl)) rfl rfl hdX11_farBy (by decide) rfl (by decide) rfl rfl rfl (Nat.le_of_ble_eq_true rfl) (dk dX11_rests_0 19 rfl) ?_
        refine k_istore (lv' := [(6, .int x9), (0, .ref (g.2.2 45)), (1, .int a1), (2, .int a2), (3, .int x2), (4, .int y5), (5, .int y6)]) C (dk dX11_rests_0 20 rfl) (by decide) rfl ?_
        refine k_aload_n C (dk dX11_rests_0 21 rfl) rfl 1 rfl ?_
        refine k_iload_n C (dk dX11_rests_0 22 rfl) rfl 2 rfl ?_
        refine k_iload C (dk dX11_rests_0 23 rfl) 6 rfl ?_
        refine cl2_k h (fun x11 s10 hc h => ?_)
        refine k_cv (T := TX11) (N := 39) (ci := 6) (ob := 45) (As := [.int a1, .int y6]) (st := []) C (qX11_farBy l g hg hc) (iW29 _ (List.mem_of_getElem? (i := 20) rfl)) (iW29 _ (List.mem_of_getElem? (i := 21) rfl)) (iW29 _ (List.mem_of_getElem? (i := 22) rfl)) (iW0 _ (List.mem_of_getElem? (i := 5) rfl)) (iW29 _ (List.mem_of_getElem? (i := 23) rfl)) rfl rfl hdX11_farBy (by decide) rfl (by decide) rfl rfl rfl (Nat.le_of_ble_eq_true rfl) (dk dX11_rests_0 24 rfl) ?_
        refine k_istore (lv' := [(7, .int x11), (6, .int x9), (0, .ref (g.2.2 45)), (1, .int a1), (2, .int a2), (3, .int x2), (4, .int y5), (5, .int y6)]) C (dk dX11_rests_0 25 rfl) (by decide) rfl ?_
        refine k_iload C (dk dX11_rests_0 26 rfl) 6 rfl ?_
        refine kl_J (P := (fun J77 => ∀ (y12 : Int32) (s13 : St), J77 y12 s13 = some (v, σe) → WK 77 [(0, .ref (g.2.2 45)), (1, .int a1), (2, .int a2), (3, .int x2), (5, .int y6)] [.int y12] s13)) h (fun y12 s13 h => ?_) (fun J77 hJ77 h => ?_)
        ·
          unfold mX11_rests_77 at h
          refine k_istore (lv' := [(4, .int y12), (0, .ref (g.2.2 45)), (1, .int a1), (2, .int a2), (3, .int x2), (5, .int y6)]) C (dk dX11_rests_1 9 rfl) (by decide) rfl ?_
          refine k_iinc (lv' := [(5, .int (y6 + 1)), (4, .int y12), (0, .ref (g.2.2 45)), (1, .int a1), (2, .int a2), (3, .int x2)]) C (dk dX11_rests_1 10 rfl) (j := 5) rfl rfl (by decide) rfl ?_
          refine k_goto (tgt := 21) C (dk dX11_rests_1 11 rfl) (by decide) ?_
          refine k_sub C [2, 3, 4, 5, 1, 0] rfl ?_
          exact hJ21 _ _ _ h
        ·
          refine kl_J (P := (fun J76 => ∀ (s14 : St), J76 s14 = some (v, σe) → WK 76 [(0, .ref (g.2.2 45)), (1, .int a1), (2, .int a2), (3, .int x2), (5, .int y6)] [] s14)) h (fun s14 h => ?_) (fun J76 hJ76 h => ?_)
          ·
            unfold mX11_rests_76 at h
            refine k_iconst (v := (0 : Int32)) C (dk dX11_rests_1 8 rfl) (by decide) ?_
            exact hJ77 _ _ h
          ·
            refine k_if_eq (tgt := 76) C (dk dX11_rests_0 27 rfl) (by decide) h (fun h => ?_) (fun h => ?_)
            ·
              refine k_sub C [2, 3, 4, 5, 7] rfl ?_
              exact hJ76 _ h
            ·
              refine k_iload C (dk dX11_rests_0 28 rfl) 1 rfl ?_
              refine kl_J (P := (fun J61 => ∀ (s15 : St), J61 s15 = some (v, σe) → WK 61 [(0, .ref (g.2.2 45)), (1, .int a1), (2, .int a2), (3, .int x2), (5, .int y6), (7, .int x11)] [] s15)) h (fun s15 h => ?_) (fun J61 hJ61 h => ?_)
              ·
                unfold mX11_rests_61 at h
                refine k_iload C (dk dX11_rests_1 1 rfl) 5 rfl ?_
                refine kl_J (P := (fun J72 => ∀ (s16 : St), J72 s16 = some (v, σe) → WK 72 [(0, .ref (g.2.2 45)), (1, .int a1), (2, .int a2), (3, .int x2), (5, .int y6)] [] s16)) h (fun s16 h => ?_) (fun J72 hJ72 h => ?_)
                ·
                  unfold mX11_rests_72 at h
                  refine k_iconst (v := (1 : Int32)) C (dk dX11_rests_1 6 rfl) (by decide) ?_
                  refine k_goto (tgt := 77) C (dk dX11_rests_1 7 rfl) (by decide) ?_
                  exact hJ77 _ _ h
                ·
                  refine k_if_lt (tgt := 72) C (dk dX11_rests_1 2 rfl) (by decide) h (fun h => ?_) (fun h => ?_)
                  ·
                    refine k_sub C [0, 1, 2, 3, 4] rfl ?_
                    exact hJ72 _ h
                  ·
                    refine k_iload C (dk dX11_rests_1 3 rfl) 5 rfl ?_
                    refine k_iload_n C (dk dX11_rests_1 4 rfl) rfl 3 rfl ?_
                    refine k_icmp_gt (tgt := 76) C (dk dX11_rests_1 5 rfl) (by decide) h (fun h => ?_) (fun h => ?_)
                    ·
                      refine k_sub C [0, 1, 2, 3, 4] rfl ?_
                      exact hJ76 _ h
                    ·
                      refine k_sub C [0, 1, 2, 3, 4] rfl ?_
                      exact hJ72 _ h
              ·
                refine k_if_lt (tgt := 61) C (dk dX11_rests_0 29 rfl) (by decide) h (fun h => ?_) (fun h => ?_)
                ·
                  refine k_sub C [2, 3, 4, 5, 7, 0] rfl ?_
                  exact hJ61 _ h
                ·
                  refine k_iload C (dk dX11_rests_0 30 rfl) 1 rfl ?_
                  refine k_iload_n C (dk dX11_rests_0 31 rfl) rfl 5 rfl ?_
                  refine k_icmp_lt (tgt := 76) C (dk dX11_rests_1 0 rfl) (by decide) h (fun h => ?_) (fun h => ?_)
                  ·
                    refine k_sub C [2, 3, 4, 5, 7] rfl ?_
                    exact hJ76 _ h
                  ·
                    refine k_sub C [2, 3, 4, 5, 7, 0] rfl ?_
                    exact hJ61 _ h
    ·
      refine k_sub C [2, 3, 4, 5, 1, 0] rfl ?_
      exact hJ21 _ _ _ h
  ·
    refine k_if_lt (tgt := 15) C (dk dX11_rests_0 6 rfl) (by decide) h (fun h => ?_) (fun h => ?_)
    ·
      refine k_iconst (v := (0 : Int32)) C (dk dX11_rests_0 9 rfl) (by decide) ?_
      refine k_sub C [1, 2, 3, 0] rfl ?_
      exact hJ16 _ _ h
    ·
      refine k_iconst (v := (1 : Int32)) C (dk dX11_rests_0 7 rfl) (by decide) ?_
      refine k_goto (tgt := 16) C (dk dX11_rests_0 8 rfl) (by decide) ?_
      refine k_sub C [1, 2, 3, 0] rfl ?_
      exact hJ16 _ _ h
set_option maxRecDepth 100000 in
set_option maxHeartbeats 4000000 in
theorem qX11_game (l : Launch) (g : G) (hg : gOK g) {a1 : Int32}  {s0 σe : St} {v : Int32} (h : mX11_game a1 s0 = some (v, σe)) : Mc l g yX11_game cX11_game 7 (some .int) { frames := 4, cells := 0, slots := 0, locals := 95 } [.ref (g.2.2 45), .int a1] s0 (some (.int v)) σe := by
  refine k_enter hg pnRX11 rfl (Nat.le_of_ble_eq_true rfl) ?_
  intro WK E
  have C := kX_y E
  unfold mX11_game at h
  show WK 0 [(0, .ref (g.2.2 45)), (1, .int a1)] [] s0
  refine k_aload_n C (dk dX11_game_0 0 rfl) rfl 0 rfl ?_
  refine k_iconst (v := (0 : Int32)) C (dk dX11_game_0 1 rfl) (by decide) ?_
  refine k_putI (D := RX11) (T := TX11) (N := 39) (ci := 6) (k := 16) C iCX11 tyX11_ok nmX11 rfl (by decide) rfl (by decide) (iW3 _ (List.mem_of_getElem? (i := 20) rfl)) rfl rfl flq6_16 flp6_16 (dk dX11_game_0 2 rfl) h (fun s1 h => ?_)
  refine k_iload_n C (dk dX11_game_0 3 rfl) rfl 1 rfl ?_
  refine k_i2l C (dk dX11_game_0 4 rfl) ?_
  refine k_lconst (v := (0 : Int64)) C (dk dX11_game_0 5 rfl) (by decide) ?_
  refine k_lconst (v := (1 : Int64)) C (dk dX11_game_0 6 rfl) (by decide) ?_
  refine cl2_k h (fun x3 s2 hc h => ?_)
  refine k_cs (As := [.long a1.toInt64, .long (0 : Int64), .long (1 : Int64)]) (st := []) C (qX11_in l g hg hc) (iW8 _ (List.mem_of_getElem? (i := 16) rfl)) (iW8 _ (List.mem_of_getElem? (i := 17) rfl)) (iW0 _ (List.mem_of_getElem? (i := 5) rfl)) (iW8 _ (List.mem_of_getElem? (i := 18) rfl)) rfl rfl hdX11_in (by decide) rfl rfl (Nat.le_of_ble_eq_true rfl) (dk dX11_game_0 7 rfl) ?_
  refine k_if_ne (tgt := 17) C (dk dX11_game_0 8 rfl) (by decide) h (fun h => ?_) (fun h => ?_)
  ·
    refine k_aload_n C (dk dX11_game_0 11 rfl) rfl 0 rfl ?_
    refine cl2_k h (fun x5 s4 hc h => ?_)
    refine k_cv (T := TX11) (N := 39) (ci := 6) (ob := 45) (As := []) (st := []) C (qX11_areBoth l g hg hc) (iW21 _ (List.mem_of_getElem? (i := 6) rfl)) (iW21 _ (List.mem_of_getElem? (i := 7) rfl)) (iW21 _ (List.mem_of_getElem? (i := 8) rfl)) (iW0 _ (List.mem_of_getElem? (i := 5) rfl)) (iW21 _ (List.mem_of_getElem? (i := 9) rfl)) rfl rfl hdX11_areBoth (by decide) rfl (by decide) rfl rfl rfl (Nat.le_of_ble_eq_true rfl) (dk dX11_game_0 12 rfl) ?_
    refine k_if_ne (tgt := 27) C (dk dX11_game_0 13 rfl) (by decide) h (fun h => ?_) (fun h => ?_)
    ·
      refine k_bipush (v := (-4 : Int32)) C (dk dX11_game_0 16 rfl) (by decide) ?_
      refine k_istore_n (lv' := [(2, .int (-4 : Int32)), (0, .ref (g.2.2 45)), (1, .int a1)]) C (dk dX11_game_0 17 rfl) rfl (by decide) rfl ?_
      refine k_sipush (v := (999 : Int32)) C (dk dX11_game_0 18 rfl) (by decide) ?_
      refine k_istore_n (lv' := [(3, .int (999 : Int32)), (2, .int (-4 : Int32)), (0, .ref (g.2.2 45)), (1, .int a1)]) C (dk dX11_game_0 19 rfl) rfl (by decide) rfl ?_
      refine k_iconst (v := (4 : Int32)) C (dk dX11_game_0 20 rfl) (by decide) ?_
      refine k_istore (lv' := [(4, .int (4 : Int32)), (3, .int (999 : Int32)), (2, .int (-4 : Int32)), (0, .ref (g.2.2 45)), (1, .int a1)]) C (dk dX11_game_0 21 rfl) (by decide) rfl ?_
      refine kl_L (P := (fun J37 => ∀ (y6 : Int32) (y7 : Int32) (y8 : Int32) (s9 : St), J37 y6 y7 y8 s9 = some (v, σe) → WK 37 [(0, .ref (g.2.2 45)), (1, .int a1), (2, .int y6), (3, .int y7), (4, .int y8)] [] s9)) h (fun _ _ _ _ h => nomatch h) (fun J37 hJ37 y6 y7 y8 s9 h => ?_) (fun J37 hJ37 h => ?_)
      ·
        unfold mX11_game_37 at h
        refine k_iload C (dk dX11_game_0 22 rfl) 4 rfl ?_
        refine k_if_lt (tgt := 135) C (dk dX11_game_0 23 rfl) (by decide) h (fun h => ?_) (fun h => ?_)
        ·
          refine k_iload_n C (dk dX11_game_2 5 rfl) rfl 1 rfl ?_
          refine k_if_ne (tgt := 143) C (dk dX11_game_2 6 rfl) (by decide) h (fun h => ?_) (fun h => ?_)
          ·
            refine k_iload_n C (dk dX11_game_2 9 rfl) rfl 3 rfl ?_
            exact k_iret E (dk dX11_game_2 10 rfl) h
          ·
            refine k_iload_n C (dk dX11_game_2 7 rfl) rfl 2 rfl ?_
            refine k_goto (tgt := 144) C (dk dX11_game_2 8 rfl) (by decide) ?_
            exact k_iret E (dk dX11_game_2 10 rfl) h
        ·
          refine k_iconst (v := (-1 : Int32)) C (dk dX11_game_0 24 rfl) (by decide) ?_
          refine k_istore (lv' := [(5, .int (-1 : Int32)), (0, .ref (g.2.2 45)), (1, .int a1), (2, .int y6), (3, .int y7), (4, .int y8)]) C (dk dX11_game_0 25 rfl) (by decide) rfl ?_
          refine k_iconst (v := (4 : Int32)) C (dk dX11_game_0 26 rfl) (by decide) ?_
          refine k_istore (lv' := [(6, .int (4 : Int32)), (5, .int (-1 : Int32)), (0, .ref (g.2.2 45)), (1, .int a1), (2, .int y6), (3, .int y7), (4, .int y8)]) C (dk dX11_game_0 27 rfl) (by decide) rfl ?_
          refine kl_L (P := (fun J48 => ∀ (y10 : Int32) (y11 : Int32) (y12 : Int32) (s13 : St), J48 y10 y11 y12 s13 = some (v, σe) → WK 48 [(0, .ref (g.2.2 45)), (1, .int a1), (2, .int y10), (3, .int y7), (4, .int y8), (5, .int y11), (6, .int y12)] [] s13)) h (fun _ _ _ _ h => nomatch h) (fun J48 hJ48 y10 y11 y12 s13 h => ?_) (fun J48 hJ48 h => ?_)
          ·
            unfold mX11_game_48 at h
            refine k_iload C (dk dX11_game_0 28 rfl) 6 rfl ?_
            refine k_if_lt (tgt := 111) C (dk dX11_game_0 29 rfl) (by decide) h (fun h => ?_) (fun h => ?_)
            ·
              refine k_iload C (dk dX11_game_1 26 rfl) 5 rfl ?_
              refine kl_J (P := (fun J128 => ∀ (y14 : Int32) (s15 : St), J128 y14 s15 = some (v, σe) → WK 128 [(0, .ref (g.2.2 45)), (1, .int a1), (2, .int y10), (4, .int y8)] [.int y14] s15)) h (fun y14 s15 h => ?_) (fun J128 hJ128 h => ?_)
              ·
                unfold mX11_game_128 at h
                refine k_istore_n (lv' := [(3, .int y14), (0, .ref (g.2.2 45)), (1, .int a1), (2, .int y10), (4, .int y8)]) C (dk dX11_game_2 2 rfl) rfl (by decide) rfl ?_
                refine k_iinc (lv' := [(4, .int (y8 + (-1))), (3, .int y14), (0, .ref (g.2.2 45)), (1, .int a1), (2, .int y10)]) C (dk dX11_game_2 3 rfl) (j := 4) rfl rfl (by decide) rfl ?_
                refine k_goto (tgt := 37) C (dk dX11_game_2 4 rfl) (by decide) ?_
                refine k_sub C [2, 3, 4, 1, 0] rfl ?_
                exact hJ37 _ _ _ _ h
              ·
                refine kl_J (P := (fun J127 => ∀ (s16 : St), J127 s16 = some (v, σe) → WK 127 [(0, .ref (g.2.2 45)), (1, .int a1), (2, .int y10), (3, .int y7), (4, .int y8)] [] s16)) h (fun s16 h => ?_) (fun J127 hJ127 h => ?_)
                ·
                  unfold mX11_game_127 at h
                  refine k_iload_n C (dk dX11_game_2 1 rfl) rfl 3 rfl ?_
                  refine k_sub C [0, 1, 2, 4] rfl ?_
                  exact hJ128 _ _ h
                ·
                  refine k_if_lt (tgt := 127) C (dk dX11_game_1 27 rfl) (by decide) h (fun h => ?_) (fun h => ?_)
                  ·
                    refine k_sub C [0, 1, 2, 3, 4] rfl ?_
                    exact hJ127 _ h
                  ·
                    refine k_iload C (dk dX11_game_1 28 rfl) 5 rfl ?_
                    refine k_iload_n C (dk dX11_game_1 29 rfl) rfl 3 rfl ?_
                    refine k_icmp_ge (tgt := 127) C (dk dX11_game_1 30 rfl) (by decide) h (fun h => ?_) (fun h => ?_)
                    ·
                      refine k_sub C [0, 1, 2, 3, 4] rfl ?_
                      exact hJ127 _ h
                    ·
                      refine k_iload C (dk dX11_game_1 31 rfl) 5 rfl ?_
                      refine k_goto (tgt := 128) C (dk dX11_game_2 0 rfl) (by decide) ?_
                      refine k_sub C [0, 1, 2, 4] rfl ?_
                      exact hJ128 _ _ h
            ·
              refine k_aload_n C (dk dX11_game_0 30 rfl) rfl 0 rfl ?_
              refine k_iload C (dk dX11_game_0 31 rfl) 4 rfl ?_
              refine k_iload C (dk dX11_game_1 0 rfl) 6 rfl ?_
              refine cl2_k h (fun x18 s17 hc h => ?_)
              refine k_cv (T := TX11) (N := 39) (ci := 6) (ob := 45) (As := [.int y8, .int y12]) (st := []) C (qX11_rests l g hg hc) (iW29 _ (List.mem_of_getElem? (i := 16) rfl)) (iW29 _ (List.mem_of_getElem? (i := 17) rfl)) (iW29 _ (List.mem_of_getElem? (i := 18) rfl)) (iW0 _ (List.mem_of_getElem? (i := 5) rfl)) (iW29 _ (List.mem_of_getElem? (i := 19) rfl)) rfl rfl hdX11_rests (by decide) rfl (by decide) rfl rfl rfl (Nat.le_of_ble_eq_true rfl) (dk dX11_game_1 1 rfl) ?_
              refine kl_J (P := (fun J76 => ∀ (y19 : Int32) (s20 : St), J76 y19 s20 = some (v, σe) → WK 76 [(0, .ref (g.2.2 45)), (1, .int a1), (3, .int y7), (4, .int y8), (5, .int y11), (6, .int y12)] [.int y19] s20)) h (fun y19 s20 h => ?_) (fun J76 hJ76 h => ?_)
              ·
                unfold mX11_game_76 at h
                refine k_istore_n (lv' := [(2, .int y19), (0, .ref (g.2.2 45)), (1, .int a1), (3, .int y7), (4, .int y8), (5, .int y11), (6, .int y12)]) C (dk dX11_game_1 10 rfl) rfl (by decide) rfl ?_
                refine k_aload_n C (dk dX11_game_1 11 rfl) rfl 1 rfl ?_
                refine k_iload C (dk dX11_game_1 12 rfl) 4 rfl ?_
                refine k_iload C (dk dX11_game_1 13 rfl) 6 rfl ?_
                refine cl2_k h (fun x22 s21 hc h => ?_)
                refine k_cv (T := TX11) (N := 39) (ci := 6) (ob := 45) (As := [.int y8, .int y12]) (st := []) C (qX11_farBy l g hg hc) (iW29 _ (List.mem_of_getElem? (i := 20) rfl)) (iW29 _ (List.mem_of_getElem? (i := 21) rfl)) (iW29 _ (List.mem_of_getElem? (i := 22) rfl)) (iW0 _ (List.mem_of_getElem? (i := 5) rfl)) (iW29 _ (List.mem_of_getElem? (i := 23) rfl)) rfl rfl hdX11_farBy (by decide) rfl (by decide) rfl rfl rfl (Nat.le_of_ble_eq_true rfl) (dk dX11_game_1 14 rfl) ?_
                refine k_iload C (dk dX11_game_1 15 rfl) 5 rfl ?_
                refine kl_J (P := (fun J103 => ∀ (y23 : Int32) (s24 : St), J103 y23 s24 = some (v, σe) → WK 103 [(0, .ref (g.2.2 45)), (1, .int a1), (2, .int y19), (3, .int y7), (4, .int y8), (6, .int y12)] [.int y23] s24)) h (fun y23 s24 h => ?_) (fun J103 hJ103 h => ?_)
                ·
                  unfold mX11_game_103 at h
                  refine k_istore (lv' := [(5, .int y23), (0, .ref (g.2.2 45)), (1, .int a1), (2, .int y19), (3, .int y7), (4, .int y8), (6, .int y12)]) C (dk dX11_game_1 23 rfl) (by decide) rfl ?_
                  refine k_iinc (lv' := [(6, .int (y12 + (-1))), (5, .int y23), (0, .ref (g.2.2 45)), (1, .int a1), (2, .int y19), (3, .int y7), (4, .int y8)]) C (dk dX11_game_1 24 rfl) (j := 6) rfl rfl (by decide) rfl ?_
                  refine k_goto (tgt := 48) C (dk dX11_game_1 25 rfl) (by decide) ?_
                  refine k_sub C [2, 3, 4, 5, 6, 1, 0] rfl ?_
                  exact hJ48 _ _ _ _ h
                ·
                  refine k_icmp_le (tgt := 101) C (dk dX11_game_1 16 rfl) (by decide) h (fun h => ?_) (fun h => ?_)
                  ·
                    refine k_iload C (dk dX11_game_1 22 rfl) 5 rfl ?_
                    refine k_sub C [1, 2, 0, 3, 4, 6] rfl ?_
                    exact hJ103 _ _ h
                  ·
                    refine k_aload_n C (dk dX11_game_1 17 rfl) rfl 1 rfl ?_
                    refine k_iload C (dk dX11_game_1 18 rfl) 4 rfl ?_
                    refine k_iload C (dk dX11_game_1 19 rfl) 6 rfl ?_
                    refine cl2_k h (fun x26 s25 hc h => ?_)
                    refine k_cv (T := TX11) (N := 39) (ci := 6) (ob := 45) (As := [.int y8, .int y12]) (st := []) C (qX11_farBy l g hg hc) (iW29 _ (List.mem_of_getElem? (i := 20) rfl)) (iW29 _ (List.mem_of_getElem? (i := 21) rfl)) (iW29 _ (List.mem_of_getElem? (i := 22) rfl)) (iW0 _ (List.mem_of_getElem? (i := 5) rfl)) (iW29 _ (List.mem_of_getElem? (i := 23) rfl)) rfl rfl hdX11_farBy (by decide) rfl (by decide) rfl rfl rfl (Nat.le_of_ble_eq_true rfl) (dk dX11_game_1 20 rfl) ?_
                    refine k_goto (tgt := 103) C (dk dX11_game_1 21 rfl) (by decide) ?_
                    refine k_sub C [1, 2, 0, 3, 4, 6] rfl ?_
                    exact hJ103 _ _ h
              ·
                refine k_if_eq (tgt := 75) C (dk dX11_game_1 2 rfl) (by decide) h (fun h => ?_) (fun h => ?_)
                ·
                  refine k_iload_n C (dk dX11_game_1 9 rfl) rfl 2 rfl ?_
                  refine k_sub C [0, 1, 3, 4, 5, 6] rfl ?_
                  exact hJ76 _ _ h
                ·
                  refine k_bipush (v := (10 : Int32)) C (dk dX11_game_1 3 rfl) (by decide) ?_
                  refine k_iload C (dk dX11_game_1 4 rfl) 4 rfl ?_
                  refine k_imul C (dk dX11_game_1 5 rfl) ?_
                  refine k_iload C (dk dX11_game_1 6 rfl) 6 rfl ?_
                  refine k_iadd C (dk dX11_game_1 7 rfl) ?_
                  refine k_goto (tgt := 76) C (dk dX11_game_1 8 rfl) (by decide) ?_
                  refine k_sub C [0, 1, 3, 4, 5, 6] rfl ?_
                  exact hJ76 _ _ h
          ·
            refine k_sub C [2, 3, 4, 5, 6, 1, 0] rfl ?_
            exact hJ48 _ _ _ _ h
      ·
        refine k_sub C [3, 4, 2, 1, 0] rfl ?_
        exact hJ37 _ _ _ _ h
    ·
      refine k_bipush (v := (-3 : Int32)) C (dk dX11_game_0 14 rfl) (by decide) ?_
      exact k_iret E (dk dX11_game_0 15 rfl) h
  ·
    refine k_iconst (v := (-1 : Int32)) C (dk dX11_game_0 9 rfl) (by decide) ?_
    exact k_iret E (dk dX11_game_0 10 rfl) h
set_option maxRecDepth 100000 in
set_option maxHeartbeats 4000000 in
theorem qX11_divisor (l : Launch) (g : G) (hg : gOK g) {a0 : Int64} {a2 : Int64}  {s0 σe : St} {v : Int64} (h : mX11_divisor a0 a2 s0 = some (v, σe)) : Mc l g yX11_divisor cX11_divisor 10 (some .long) { frames := 0, cells := 0, slots := 0, locals := 0 } [.long a0, .long a2] s0 (some (.long v)) σe := by
  refine k_enter hg pnRX11 rfl (Nat.le_of_ble_eq_true rfl) ?_
  intro WK E
  have C := kX_y E
  unfold mX11_divisor at h
  show WK 0 [(0, .long a0), (2, .long a2)] [] s0
  refine k_lload_n C (dk dX11_divisor_0 0 rfl) rfl 0 rfl ?_
  refine k_lstore (lv' := [(4, .long a0), (0, .long a0), (2, .long a2)]) C (dk dX11_divisor_0 1 rfl) (by decide) rfl ?_
  refine k_lload_n C (dk dX11_divisor_0 2 rfl) rfl 2 rfl ?_
  refine k_lstore (lv' := [(6, .long a2), (4, .long a0), (0, .long a0), (2, .long a2)]) C (dk dX11_divisor_0 3 rfl) (by decide) rfl ?_
  refine kl_L (P := (fun J6 => ∀ (y1 : Int64) (y2 : Int64) (s3 : St), J6 y1 y2 s3 = some (v, σe) → WK 6 [(4, .long y1), (6, .long y2)] [] s3)) h (fun _ _ _ h => nomatch h) (fun J6 hJ6 y1 y2 s3 h => ?_) (fun J6 hJ6 h => ?_)
  ·
    unfold mX11_divisor_6 at h
    refine k_lload C (dk dX11_divisor_0 4 rfl) 1 rfl ?_
    refine k_lconst (v := (0 : Int64)) C (dk dX11_divisor_0 5 rfl) (by decide) ?_
    refine k_lcmp C (dk dX11_divisor_0 6 rfl) ?_
    refine k_if_eq (tgt := 31) C (dk dX11_divisor_0 7 rfl) (by decide) h (fun h => ?_) (fun h => ?_)
    ·
      refine k_lload C (dk dX11_divisor_0 17 rfl) 0 rfl ?_
      exact k_lret E (dk dX11_divisor_0 18 rfl) h
    ·
      refine k_lload C (dk dX11_divisor_0 8 rfl) 0 rfl ?_
      refine k_lload C (dk dX11_divisor_0 9 rfl) 1 rfl ?_
      refine k_lremv C (dk dX11_divisor_0 10 rfl) h (fun h => ?_)
      refine nmL h (fun x4 h => ?_)
      refine k_lstore (lv' := [(8, .long x4), (4, .long y1), (6, .long y2)]) C (dk dX11_divisor_0 11 rfl) (by decide) rfl ?_
      refine k_lload C (dk dX11_divisor_0 12 rfl) 2 rfl ?_
      refine k_lstore (lv' := [(4, .long y2), (8, .long x4), (6, .long y2)]) C (dk dX11_divisor_0 13 rfl) (by decide) rfl ?_
      refine k_lload C (dk dX11_divisor_0 14 rfl) 1 rfl ?_
      refine k_lstore (lv' := [(6, .long x4), (4, .long y2), (8, .long x4)]) C (dk dX11_divisor_0 15 rfl) (by decide) rfl ?_
      refine k_goto (tgt := 6) C (dk dX11_divisor_0 16 rfl) (by decide) ?_
      refine k_sub C [1, 0] rfl ?_
      exact hJ6 _ _ _ h
  ·
    refine k_sub C [1, 0] rfl ?_
    exact hJ6 _ _ _ h
set_option maxRecDepth 100000 in
set_option maxHeartbeats 4000000 in
theorem qX11_partOf (l : Launch) (g : G) (hg : gOK g) {a0 : Int64} {a2 : Int64} {a4 : Int32}  {s0 σe : St} {v : Int64} (h : mX11_partOf a0 a2 a4 s0 = some (v, σe)) : Mc l g yX11_partOf cX11_partOf 7 (some .long) { frames := 1, cells := 0, slots := 0, locals := 29 } [.long a0, .long a2, .int a4] s0 (some (.long v)) σe := by
  refine k_enter hg pnRX11 rfl (Nat.le_of_ble_eq_true rfl) ?_
  intro WK E
  have C := kX_y E
  unfold mX11_partOf at h
  show WK 0 [(0, .long a0), (2, .long a2), (4, .int a4)] [] s0
  refine k_lload_n C (dk dX11_partOf_0 0 rfl) rfl 0 rfl ?_
  refine k_lconst (v := (0 : Int64)) C (dk dX11_partOf_0 1 rfl) (by decide) ?_
  refine k_lcmp C (dk dX11_partOf_0 2 rfl) ?_
  refine k_if_ne (tgt := 10) C (dk dX11_partOf_0 3 rfl) (by decide) h (fun h => ?_) (fun h => ?_)
  ·
    refine k_lload_n C (dk dX11_partOf_0 7 rfl) rfl 0 rfl ?_
    refine k_lload_n C (dk dX11_partOf_0 8 rfl) rfl 1 rfl ?_
    refine cl2_k h (fun x2 s1 hc h => ?_)
    refine k_cs (As := [.long a0, .long a2]) (st := []) C (qX11_divisor l g hg hc) (iW31 _ (List.mem_of_getElem? (i := 15) rfl)) (iW31 _ (List.mem_of_getElem? (i := 16) rfl)) (iW0 _ (List.mem_of_getElem? (i := 5) rfl)) (iW31 _ (List.mem_of_getElem? (i := 17) rfl)) rfl rfl hdX11_divisor (by decide) rfl rfl (Nat.le_of_ble_eq_true rfl) (dk dX11_partOf_0 9 rfl) ?_
    refine k_lstore (lv' := [(5, .long x2), (0, .long a0), (2, .long a2), (4, .int a4)]) C (dk dX11_partOf_0 10 rfl) (by decide) rfl ?_
    refine k_iload C (dk dX11_partOf_0 11 rfl) 3 rfl ?_
    refine k_if_ne (tgt := 29) C (dk dX11_partOf_0 12 rfl) (by decide) h (fun h => ?_) (fun h => ?_)
    ·
      refine k_lload_n C (dk dX11_partOf_0 17 rfl) rfl 2 rfl ?_
      refine k_lload C (dk dX11_partOf_0 18 rfl) 0 rfl ?_
      refine k_ldivv C (dk dX11_partOf_0 19 rfl) h (fun h => ?_)
      exact k_lret E (dk dX11_partOf_0 20 rfl) h
    ·
      refine k_lload_n C (dk dX11_partOf_0 13 rfl) rfl 1 rfl ?_
      refine k_lload C (dk dX11_partOf_0 14 rfl) 0 rfl ?_
      refine k_ldivv C (dk dX11_partOf_0 15 rfl) h (fun h => ?_)
      refine k_goto (tgt := 33) C (dk dX11_partOf_0 16 rfl) (by decide) ?_
      exact k_lret E (dk dX11_partOf_0 20 rfl) h
  ·
    refine k_iload C (dk dX11_partOf_0 4 rfl) 2 rfl ?_
    refine k_i2l C (dk dX11_partOf_0 5 rfl) ?_
    exact k_lret E (dk dX11_partOf_0 6 rfl) h
set_option maxRecDepth 100000 in
set_option maxHeartbeats 4000000 in
theorem qX11_isWay (l : Launch) (g : G) (hg : gOK g) {a0 : Int64} {a2 : Int32} {a3 : Int32}  {s0 σe : St} {v : Int32} (h : mX11_isWay a0 a2 a3 s0 = some (v, σe)) : Mc l g yX11_isWay cX11_isWay 12 (some .boolean) { frames := 1, cells := 0, slots := 0, locals := 22 } [.long a0, .int a2, .int a3] s0 (some (.int v)) σe := by
  refine k_enter hg pnRX11 rfl (Nat.le_of_ble_eq_true rfl) ?_
  intro WK E
  have C := kX_y E
  unfold mX11_isWay at h
  show WK 0 [(0, .long a0), (2, .int a2), (3, .int a3)] [] s0
  refine k_lconst (v := (1 : Int64)) C (dk dX11_isWay_0 0 rfl) (by decide) ?_
  refine k_iload_n C (dk dX11_isWay_0 1 rfl) rfl 1 rfl ?_
  refine k_lshl C (dk dX11_isWay_0 2 rfl) ?_
  refine k_lload_n C (dk dX11_isWay_0 3 rfl) rfl 0 rfl ?_
  refine k_land C (dk dX11_isWay_0 4 rfl) ?_
  refine nmL h (fun x1 h => ?_)
  refine k_lstore (lv' := [(4, .long x1), (0, .long a0), (2, .int a2), (3, .int a3)]) C (dk dX11_isWay_0 5 rfl) (by decide) rfl ?_
  refine k_iconst (v := (0 : Int32)) C (dk dX11_isWay_0 6 rfl) (by decide) ?_
  refine k_istore (lv' := [(6, .int (0 : Int32)), (4, .long x1), (0, .long a0), (2, .int a2), (3, .int a3)]) C (dk dX11_isWay_0 7 rfl) (by decide) rfl ?_
  refine kl_L (P := (fun J10 => ∀ (y2 : Int64) (y3 : Int32) (s4 : St), J10 y2 y3 s4 = some (v, σe) → WK 10 [(0, .long a0), (3, .int a3), (4, .long y2), (6, .int y3)] [] s4)) h (fun _ _ _ h => nomatch h) (fun J10 hJ10 y2 y3 s4 h => ?_) (fun J10 hJ10 h => ?_)
  ·
    unfold mX11_isWay_10 at h
    refine k_iload C (dk dX11_isWay_0 8 rfl) 3 rfl ?_
    refine k_bipush (v := (36 : Int32)) C (dk dX11_isWay_0 9 rfl) (by decide) ?_
    refine k_icmp_ge (tgt := 108) C (dk dX11_isWay_0 10 rfl) (by decide) h (fun h => ?_) (fun h => ?_)
    ·
      refine k_lload C (dk dX11_isWay_1 21 rfl) 2 rfl ?_
      refine k_iload_n C (dk dX11_isWay_1 22 rfl) rfl 1 rfl ?_
      refine cl2_k h (fun x6 s5 hc h => ?_)
      refine k_cs (As := [.long y2, .int a3]) (st := []) C (qX11_isOn l g hg hc) (iW15 _ (List.mem_of_getElem? (i := 12) rfl)) (iW15 _ (List.mem_of_getElem? (i := 13) rfl)) (iW0 _ (List.mem_of_getElem? (i := 5) rfl)) (iW15 _ (List.mem_of_getElem? (i := 14) rfl)) rfl rfl hdX11_isOn (by decide) rfl rfl (Nat.le_of_ble_eq_true rfl) (dk dX11_isWay_1 23 rfl) ?_
      exact k_zret E (dk dX11_isWay_1 24 rfl) h
    ·
      refine k_lload C (dk dX11_isWay_0 11 rfl) 2 rfl ?_
      refine k_lstore (lv' := [(7, .long y2), (0, .long a0), (3, .int a3), (4, .long y2), (6, .int y3)]) C (dk dX11_isWay_0 12 rfl) (by decide) rfl ?_
      refine k_iconst (v := (0 : Int32)) C (dk dX11_isWay_0 13 rfl) (by decide) ?_
      refine k_istore (lv' := [(9, .int (0 : Int32)), (7, .long y2), (0, .long a0), (3, .int a3), (4, .long y2), (6, .int y3)]) C (dk dX11_isWay_0 14 rfl) (by decide) rfl ?_
      refine kl_L (P := (fun J24 => ∀ (y7 : Int64) (y8 : Int32) (s9 : St), J24 y7 y8 s9 = some (v, σe) → WK 24 [(0, .long a0), (3, .int a3), (4, .long y2), (6, .int y3), (7, .long y7), (9, .int y8)] [] s9)) h (fun _ _ _ h => nomatch h) (fun J24 hJ24 y7 y8 s9 h => ?_) (fun J24 hJ24 h => ?_)
      ·
        unfold mX11_isWay_24 at h
        refine k_iload C (dk dX11_isWay_0 15 rfl) 5 rfl ?_
        refine k_bipush (v := (36 : Int32)) C (dk dX11_isWay_0 16 rfl) (by decide) ?_
        refine k_icmp_ge (tgt := 98) C (dk dX11_isWay_0 17 rfl) (by decide) h (fun h => ?_) (fun h => ?_)
        ·
          refine k_lload C (dk dX11_isWay_1 17 rfl) 4 rfl ?_
          refine k_lstore (lv' := [(4, .long y7), (0, .long a0), (3, .int a3), (6, .int y3), (7, .long y7), (9, .int y8)]) C (dk dX11_isWay_1 18 rfl) (by decide) rfl ?_
          refine k_iinc (lv' := [(6, .int (y3 + 1)), (4, .long y7), (0, .long a0), (3, .int a3), (7, .long y7), (9, .int y8)]) C (dk dX11_isWay_1 19 rfl) (j := 3) rfl rfl (by decide) rfl ?_
          refine k_goto (tgt := 10) C (dk dX11_isWay_1 20 rfl) (by decide) ?_
          refine k_sub C [2, 3, 1, 0] rfl ?_
          exact hJ10 _ _ _ h
        ·
          refine k_iconst (v := (1 : Int32)) C (dk dX11_isWay_0 18 rfl) (by decide) ?_
          refine k_istore (lv' := [(10, .int (1 : Int32)), (0, .long a0), (3, .int a3), (4, .long y2), (6, .int y3), (7, .long y7), (9, .int y8)]) C (dk dX11_isWay_0 19 rfl) (by decide) rfl ?_
          refine kl_L (P := (fun J34 => ∀ (y10 : Int64) (y11 : Int32) (s12 : St), J34 y10 y11 s12 = some (v, σe) → WK 34 [(0, .long a0), (3, .int a3), (4, .long y2), (6, .int y3), (7, .long y10), (9, .int y8), (10, .int y11)] [] s12)) h (fun _ _ _ h => nomatch h) (fun J34 hJ34 y10 y11 s12 h => ?_) (fun J34 hJ34 h => ?_)
          ·
            unfold mX11_isWay_34 at h
            refine k_iload C (dk dX11_isWay_0 20 rfl) 6 rfl ?_
            refine k_iconst (v := (5 : Int32)) C (dk dX11_isWay_0 21 rfl) (by decide) ?_
            refine kl_J (P := (fun J92 => ∀ (y13 : Int32) (s14 : St), J92 y13 s14 = some (v, σe) → WK 92 [(0, .long a0), (3, .int a3), (4, .long y2), (6, .int y3), (7, .long y10), (9, .int y13)] [] s14)) h (fun y13 s14 h => ?_) (fun J92 hJ92 h => ?_)
            ·
              unfold mX11_isWay_92 at h
              refine k_iinc (lv' := [(9, .int (y13 + 1)), (0, .long a0), (3, .int a3), (4, .long y2), (6, .int y3), (7, .long y10)]) C (dk dX11_isWay_1 15 rfl) (j := 5) rfl rfl (by decide) rfl ?_
              refine k_goto (tgt := 24) C (dk dX11_isWay_1 16 rfl) (by decide) ?_
              refine k_sub C [1, 2, 3, 4, 5, 0] rfl ?_
              exact hJ24 _ _ _ h
            ·
              refine k_icmp_ge (tgt := 92) C (dk dX11_isWay_0 22 rfl) (by decide) h (fun h => ?_) (fun h => ?_)
              ·
                refine k_sub C [0, 1, 2, 3, 4, 5] rfl ?_
                exact hJ92 _ _ h
              ·
                refine k_lload C (dk dX11_isWay_0 23 rfl) 2 rfl ?_
                refine k_iload C (dk dX11_isWay_0 24 rfl) 5 rfl ?_
                refine cl2_k h (fun x16 s15 hc h => ?_)
                refine k_cs (As := [.long y2, .int y8]) (st := []) C (qX11_isOn l g hg hc) (iW15 _ (List.mem_of_getElem? (i := 12) rfl)) (iW15 _ (List.mem_of_getElem? (i := 13) rfl)) (iW0 _ (List.mem_of_getElem? (i := 5) rfl)) (iW15 _ (List.mem_of_getElem? (i := 14) rfl)) rfl rfl hdX11_isOn (by decide) rfl rfl (Nat.le_of_ble_eq_true rfl) (dk dX11_isWay_0 25 rfl) ?_
                refine k_if_eq (tgt := 92) C (dk dX11_isWay_0 26 rfl) (by decide) h (fun h => ?_) (fun h => ?_)
                ·
                  refine k_sub C [0, 1, 2, 3, 4, 5] rfl ?_
                  exact hJ92 _ _ h
                ·
                  refine k_iload C (dk dX11_isWay_0 27 rfl) 5 rfl ?_
                  refine k_iload C (dk dX11_isWay_0 28 rfl) 6 rfl ?_
                  refine cl2_k h (fun x18 s17 hc h => ?_)
                  refine k_cs (As := [.int y8, .int y11]) (st := []) C (qX11_beside l g hg hc) (iW10 _ (List.mem_of_getElem? (i := 3) rfl)) (iW10 _ (List.mem_of_getElem? (i := 4) rfl)) (iW0 _ (List.mem_of_getElem? (i := 5) rfl)) (iW10 _ (List.mem_of_getElem? (i := 5) rfl)) rfl rfl hdX11_beside (by decide) rfl rfl (Nat.le_of_ble_eq_true rfl) (dk dX11_isWay_0 29 rfl) ?_
                  refine k_istore (lv' := [(11, .int x18), (0, .long a0), (3, .int a3), (4, .long y2), (6, .int y3), (7, .long y10), (9, .int y8), (10, .int y11)]) C (dk dX11_isWay_0 30 rfl) (by decide) rfl ?_
                  refine k_lload C (dk dX11_isWay_0 31 rfl) 5 rfl ?_
                  refine k_iload C (dk dX11_isWay_1 0 rfl) 0 rfl ?_
                  refine kl_J (P := (fun J83 => ∀ (y19 : Int64) (s20 : St), J83 y19 s20 = some (v, σe) → WK 83 [(0, .long a0), (3, .int a3), (4, .long y2), (6, .int y3), (9, .int y8), (10, .int y11)] [.long y19, .long y10] s20)) h (fun y19 s20 h => ?_) (fun J83 hJ83 h => ?_)
                  ·
                    unfold mX11_isWay_83 at h
                    refine k_lor C (dk dX11_isWay_1 11 rfl) ?_
                    refine nmL h (fun x21 h => ?_)
                    refine k_lstore (lv' := [(7, .long x21), (0, .long a0), (3, .int a3), (4, .long y2), (6, .int y3), (9, .int y8), (10, .int y11)]) C (dk dX11_isWay_1 12 rfl) (by decide) rfl ?_
                    refine k_iinc (lv' := [(10, .int (y11 + 1)), (7, .long x21), (0, .long a0), (3, .int a3), (4, .long y2), (6, .int y3), (9, .int y8)]) C (dk dX11_isWay_1 13 rfl) (j := 6) rfl rfl (by decide) rfl ?_
                    refine k_goto (tgt := 34) C (dk dX11_isWay_1 14 rfl) (by decide) ?_
                    refine k_sub C [2, 3, 4, 5, 1, 6, 0] rfl ?_
                    exact hJ34 _ _ _ h
                  ·
                    refine kl_J (P := (fun J82 => ∀ (s22 : St), J82 s22 = some (v, σe) → WK 82 [(0, .long a0), (3, .int a3), (4, .long y2), (6, .int y3), (9, .int y8), (10, .int y11)] [.long y10] s22)) h (fun s22 h => ?_) (fun J82 hJ82 h => ?_)
                    ·
                      unfold mX11_isWay_82 at h
                      refine k_lconst (v := (0 : Int64)) C (dk dX11_isWay_1 10 rfl) (by decide) ?_
                      exact hJ83 _ _ h
                    ·
                      refine k_if_lt (tgt := 82) C (dk dX11_isWay_1 1 rfl) (by decide) h (fun h => ?_) (fun h => ?_)
                      ·
                        refine k_sub C [1, 2, 3, 4, 6, 7] rfl ?_
                        exact hJ82 _ h
                      ·
                        refine k_lload_n C (dk dX11_isWay_1 2 rfl) rfl 1 rfl ?_
                        refine k_iload C (dk dX11_isWay_1 3 rfl) 0 rfl ?_
                        refine cl2_k h (fun x24 s23 hc h => ?_)
                        refine k_cs (As := [.long a0, .int x18]) (st := [.long y10]) C (qX11_isOn l g hg hc) (iW15 _ (List.mem_of_getElem? (i := 12) rfl)) (iW15 _ (List.mem_of_getElem? (i := 13) rfl)) (iW0 _ (List.mem_of_getElem? (i := 5) rfl)) (iW15 _ (List.mem_of_getElem? (i := 14) rfl)) rfl rfl hdX11_isOn (by decide) rfl rfl (Nat.le_of_ble_eq_true rfl) (dk dX11_isWay_1 4 rfl) ?_
                        refine k_if_eq (tgt := 82) C (dk dX11_isWay_1 5 rfl) (by decide) h (fun h => ?_) (fun h => ?_)
                        ·
                          refine k_sub C [1, 2, 3, 4, 6, 7] rfl ?_
                          exact hJ82 _ h
                        ·
                          refine k_lconst (v := (1 : Int64)) C (dk dX11_isWay_1 6 rfl) (by decide) ?_
                          refine k_iload C (dk dX11_isWay_1 7 rfl) 0 rfl ?_
                          refine k_lshl C (dk dX11_isWay_1 8 rfl) ?_
                          refine k_goto (tgt := 83) C (dk dX11_isWay_1 9 rfl) (by decide) ?_
                          refine k_sub C [1, 2, 3, 4, 6, 7] rfl ?_
                          exact hJ83 _ _ h
          ·
            refine k_sub C [1, 2, 3, 4, 5, 6, 0] rfl ?_
            exact hJ34 _ _ _ h
      ·
        refine k_sub C [2, 3, 4, 5, 1, 0] rfl ?_
        exact hJ24 _ _ _ h
  ·
    refine k_sub C [2, 4, 1, 0] rfl ?_
    exact hJ10 _ _ _ h
set_option maxRecDepth 100000 in
set_option maxHeartbeats 4000000 in
theorem qX11_snow (l : Launch) (g : G) (hg : gOK g) {a1 : Int32} {a2 : Int32} {a3 : Int32}  {s0 σe : St} {v : Int64} (h : mX11_snow a1 a2 a3 s0 = some (v, σe)) : Mc l g yX11_snow cX11_snow 18 (some .long) { frames := 2, cells := 0, slots := 0, locals := 55 } [.ref (g.2.2 45), .int a1, .int a2, .int a3] s0 (some (.long v)) σe := by
  refine k_enter hg pnRX11 rfl (Nat.le_of_ble_eq_true rfl) ?_
  intro WK E
  have C := kX_y E
  unfold mX11_snow at h
  show WK 0 [(0, .ref (g.2.2 45)), (1, .int a1), (2, .int a2), (3, .int a3)] [] s0
  refine k_aload_n C (dk dX11_snow_0 0 rfl) rfl 0 rfl ?_
  refine k_iconst (v := (0 : Int32)) C (dk dX11_snow_0 1 rfl) (by decide) ?_
  refine k_putI (D := RX11) (T := TX11) (N := 39) (ci := 6) (k := 16) C iCX11 tyX11_ok nmX11 rfl (by decide) rfl (by decide) (iW3 _ (List.mem_of_getElem? (i := 20) rfl)) rfl rfl flq6_16 flp6_16 (dk dX11_snow_0 2 rfl) h (fun s1 h => ?_)
  refine k_iload_n C (dk dX11_snow_0 3 rfl) rfl 1 rfl ?_
  refine k_i2l C (dk dX11_snow_0 4 rfl) ?_
  refine cl2_k h (fun x3 s2 hc h => ?_)
  refine k_cs (As := [.long a1.toInt64]) (st := []) C (qX11_isCell l g hg hc) (iW11 _ (List.mem_of_getElem? (i := 21) rfl)) (iW11 _ (List.mem_of_getElem? (i := 22) rfl)) (iW0 _ (List.mem_of_getElem? (i := 5) rfl)) (iW11 _ (List.mem_of_getElem? (i := 23) rfl)) rfl rfl hdX11_isCell (by decide) rfl rfl (Nat.le_of_ble_eq_true rfl) (dk dX11_snow_0 5 rfl) ?_
  refine kl_J (P := (fun J31 => ∀ (s4 : St), J31 s4 = some (v, σe) → WK 31 [] [] s4)) h (fun s4 h => ?_) (fun J31 hJ31 h => ?_)
  ·
    unfold mX11_snow_31 at h
    refine k_ldc2 (v := (-1000000001 : Int64)) C (dk dX11_snow_0 17 rfl) (iW31 _ (List.mem_of_getElem? (i := 6) rfl)) ?_
    exact k_lret E (dk dX11_snow_0 18 rfl) h
  ·
    refine k_if_eq (tgt := 31) C (dk dX11_snow_0 6 rfl) (by decide) h (fun h => ?_) (fun h => ?_)
    ·
      refine k_sub C [] rfl ?_
      exact hJ31 _ h
    ·
      refine k_iload_n C (dk dX11_snow_0 7 rfl) rfl 2 rfl ?_
      refine k_i2l C (dk dX11_snow_0 8 rfl) ?_
      refine cl2_k h (fun x6 s5 hc h => ?_)
      refine k_cs (As := [.long a2.toInt64]) (st := []) C (qX11_isCell l g hg hc) (iW11 _ (List.mem_of_getElem? (i := 21) rfl)) (iW11 _ (List.mem_of_getElem? (i := 22) rfl)) (iW0 _ (List.mem_of_getElem? (i := 5) rfl)) (iW11 _ (List.mem_of_getElem? (i := 23) rfl)) rfl rfl hdX11_isCell (by decide) rfl rfl (Nat.le_of_ble_eq_true rfl) (dk dX11_snow_0 9 rfl) ?_
      refine k_if_eq (tgt := 31) C (dk dX11_snow_0 10 rfl) (by decide) h (fun h => ?_) (fun h => ?_)
      ·
        refine k_sub C [] rfl ?_
        exact hJ31 _ h
      ·
        refine k_iload_n C (dk dX11_snow_0 11 rfl) rfl 3 rfl ?_
        refine k_i2l C (dk dX11_snow_0 12 rfl) ?_
        refine k_lconst (v := (0 : Int64)) C (dk dX11_snow_0 13 rfl) (by decide) ?_
        refine k_lconst (v := (1 : Int64)) C (dk dX11_snow_0 14 rfl) (by decide) ?_
        refine cl2_k h (fun x8 s7 hc h => ?_)
        refine k_cs (As := [.long a3.toInt64, .long (0 : Int64), .long (1 : Int64)]) (st := []) C (qX11_in l g hg hc) (iW8 _ (List.mem_of_getElem? (i := 16) rfl)) (iW8 _ (List.mem_of_getElem? (i := 17) rfl)) (iW0 _ (List.mem_of_getElem? (i := 5) rfl)) (iW8 _ (List.mem_of_getElem? (i := 18) rfl)) rfl rfl hdX11_in (by decide) rfl rfl (Nat.le_of_ble_eq_true rfl) (dk dX11_snow_0 15 rfl) ?_
        refine k_if_ne (tgt := 35) C (dk dX11_snow_0 16 rfl) (by decide) h (fun h => ?_) (fun h => ?_)
        ·
          refine k_lconst (v := (0 : Int64)) C (dk dX11_snow_0 19 rfl) (by decide) ?_
          refine k_lstore (lv' := [(4, .long (0 : Int64)), (0, .ref (g.2.2 45)), (1, .int a1), (2, .int a2), (3, .int a3)]) C (dk dX11_snow_0 20 rfl) (by decide) rfl ?_
          refine k_iconst (v := (0 : Int32)) C (dk dX11_snow_0 21 rfl) (by decide) ?_
          refine k_istore (lv' := [(6, .int (0 : Int32)), (4, .long (0 : Int64)), (0, .ref (g.2.2 45)), (1, .int a1), (2, .int a2), (3, .int a3)]) C (dk dX11_snow_0 22 rfl) (by decide) rfl ?_
          refine k_lconst (v := (1 : Int64)) C (dk dX11_snow_0 23 rfl) (by decide) ?_
          refine k_lstore (lv' := [(7, .long (1 : Int64)), (6, .int (0 : Int32)), (4, .long (0 : Int64)), (0, .ref (g.2.2 45)), (1, .int a1), (2, .int a2), (3, .int a3)]) C (dk dX11_snow_0 24 rfl) (by decide) rfl ?_
          refine k_iconst (v := (0 : Int32)) C (dk dX11_snow_0 25 rfl) (by decide) ?_
          refine k_istore (lv' := [(9, .int (0 : Int32)), (7, .long (1 : Int64)), (6, .int (0 : Int32)), (4, .long (0 : Int64)), (0, .ref (g.2.2 45)), (1, .int a1), (2, .int a2), (3, .int a3)]) C (dk dX11_snow_0 26 rfl) (by decide) rfl ?_
          refine kl_L (P := (fun J47 => ∀ (y9 : Int64) (y10 : Int32) (y11 : Int64) (y12 : Int32) (s13 : St), J47 y9 y10 y11 y12 s13 = some (v, σe) → WK 47 [(0, .ref (g.2.2 45)), (1, .int a1), (2, .int a2), (3, .int a3), (4, .long y9), (6, .int y10), (7, .long y11), (9, .int y12)] [] s13)) h (fun _ _ _ _ _ h => nomatch h) (fun J47 hJ47 y9 y10 y11 y12 s13 h => ?_) (fun J47 hJ47 h => ?_)
          ·
            unfold mX11_snow_47 at h
            refine k_iload C (dk dX11_snow_0 27 rfl) 7 rfl ?_
            refine k_bipush (v := (36 : Int32)) C (dk dX11_snow_0 28 rfl) (by decide) ?_
            refine k_icmp_ge (tgt := 132) C (dk dX11_snow_0 29 rfl) (by decide) h (fun h => ?_) (fun h => ?_)
            ·
              refine k_lconst (v := (0 : Int64)) C (dk dX11_snow_2 4 rfl) (by decide) ?_
              refine k_lstore (lv' := [(9, .long (0 : Int64)), (0, .ref (g.2.2 45)), (1, .int a1), (2, .int a2), (3, .int a3), (4, .long y9), (6, .int y10), (7, .long y11)]) C (dk dX11_snow_2 5 rfl) (by decide) rfl ?_
              refine k_iconst (v := (0 : Int32)) C (dk dX11_snow_2 6 rfl) (by decide) ?_
              refine k_istore (lv' := [(11, .int (0 : Int32)), (9, .long (0 : Int64)), (0, .ref (g.2.2 45)), (1, .int a1), (2, .int a2), (3, .int a3), (4, .long y9), (6, .int y10), (7, .long y11)]) C (dk dX11_snow_2 7 rfl) (by decide) rfl ?_
              refine kl_L (P := (fun J138 => ∀ (y14 : Int64) (y15 : Int32) (s16 : St), J138 y14 y15 s16 = some (v, σe) → WK 138 [(0, .ref (g.2.2 45)), (1, .int a1), (2, .int a2), (3, .int a3), (4, .long y9), (6, .int y10), (7, .long y11), (9, .long y14), (11, .int y15)] [] s16)) h (fun _ _ _ h => nomatch h) (fun J138 hJ138 y14 y15 s16 h => ?_) (fun J138 hJ138 h => ?_)
              ·
                unfold mX11_snow_138 at h
                refine k_iload C (dk dX11_snow_2 8 rfl) 8 rfl ?_
                refine k_iconst (v := (1 : Int32)) C (dk dX11_snow_2 9 rfl) (by decide) ?_
                refine k_iload C (dk dX11_snow_2 10 rfl) 5 rfl ?_
                refine k_ishl C (dk dX11_snow_2 11 rfl) ?_
                refine k_icmp_ge (tgt := 278) C (dk dX11_snow_2 12 rfl) (by decide) h (fun h => ?_) (fun h => ?_)
                ·
                  refine k_lload C (dk dX11_snow_4 19 rfl) 7 rfl ?_
                  refine k_lload C (dk dX11_snow_4 20 rfl) 6 rfl ?_
                  refine k_iload_n C (dk dX11_snow_4 21 rfl) rfl 3 rfl ?_
                  refine cl2_k h (fun x18 s17 hc h => ?_)
                  refine k_cs (As := [.long y14, .long y11, .int a3]) (st := []) C (qX11_partOf l g hg hc) (iW31 _ (List.mem_of_getElem? (i := 12) rfl)) (iW31 _ (List.mem_of_getElem? (i := 13) rfl)) (iW0 _ (List.mem_of_getElem? (i := 5) rfl)) (iW31 _ (List.mem_of_getElem? (i := 14) rfl)) rfl rfl hdX11_partOf (by decide) rfl rfl (Nat.le_of_ble_eq_true rfl) (dk dX11_snow_4 22 rfl) ?_
                  exact k_lret E (dk dX11_snow_4 23 rfl) h
                ·
                  refine k_lload C (dk dX11_snow_2 13 rfl) 4 rfl ?_
                  refine k_lstore (lv' := [(12, .long y9), (0, .ref (g.2.2 45)), (1, .int a1), (2, .int a2), (3, .int a3), (4, .long y9), (6, .int y10), (7, .long y11), (9, .long y14), (11, .int y15)]) C (dk dX11_snow_2 14 rfl) (by decide) rfl ?_
                  refine k_lconst (v := (1 : Int64)) C (dk dX11_snow_2 15 rfl) (by decide) ?_
                  refine k_lstore (lv' := [(14, .long (1 : Int64)), (12, .long y9), (0, .ref (g.2.2 45)), (1, .int a1), (2, .int a2), (3, .int a3), (4, .long y9), (6, .int y10), (7, .long y11), (9, .long y14), (11, .int y15)]) C (dk dX11_snow_2 16 rfl) (by decide) rfl ?_
                  refine k_iconst (v := (0 : Int32)) C (dk dX11_snow_2 17 rfl) (by decide) ?_
                  refine k_istore (lv' := [(16, .int (0 : Int32)), (14, .long (1 : Int64)), (12, .long y9), (0, .ref (g.2.2 45)), (1, .int a1), (2, .int a2), (3, .int a3), (4, .long y9), (6, .int y10), (7, .long y11), (9, .long y14), (11, .int y15)]) C (dk dX11_snow_2 18 rfl) (by decide) rfl ?_
                  refine kl_L (P := (fun J157 => ∀ (y19 : Int64) (y20 : Int64) (y21 : Int32) (s22 : St), J157 y19 y20 y21 s22 = some (v, σe) → WK 157 [(0, .ref (g.2.2 45)), (1, .int a1), (2, .int a2), (3, .int a3), (4, .long y9), (6, .int y10), (7, .long y11), (9, .long y14), (11, .int y15), (12, .long y19), (14, .long y20), (16, .int y21)] [] s22)) h (fun _ _ _ _ h => nomatch h) (fun J157 hJ157 y19 y20 y21 s22 h => ?_) (fun J157 hJ157 h => ?_)
                  ·
                    unfold mX11_snow_157 at h
                    refine k_iload C (dk dX11_snow_2 19 rfl) 11 rfl ?_
                    refine k_iload C (dk dX11_snow_2 20 rfl) 5 rfl ?_
                    refine k_icmp_ge (tgt := 251) C (dk dX11_snow_2 21 rfl) (by decide) h (fun h => ?_) (fun h => ?_)
                    ·
                      refine k_lload C (dk dX11_snow_4 6 rfl) 7 rfl ?_
                      refine k_lload C (dk dX11_snow_4 7 rfl) 9 rfl ?_
                      refine k_iload_n C (dk dX11_snow_4 8 rfl) rfl 1 rfl ?_
                      refine k_iload_n C (dk dX11_snow_4 9 rfl) rfl 2 rfl ?_
                      refine cl2_k h (fun x24 s23 hc h => ?_)
                      refine k_cs (As := [.long y19, .int a1, .int a2]) (st := [.long y14]) C (qX11_isWay l g hg hc) (iW31 _ (List.mem_of_getElem? (i := 9) rfl)) (iW31 _ (List.mem_of_getElem? (i := 10) rfl)) (iW0 _ (List.mem_of_getElem? (i := 5) rfl)) (iW31 _ (List.mem_of_getElem? (i := 11) rfl)) rfl rfl hdX11_isWay (by decide) rfl rfl (Nat.le_of_ble_eq_true rfl) (dk dX11_snow_4 10 rfl) ?_
                      refine kl_J (P := (fun J269 => ∀ (y25 : Int64) (s26 : St), J269 y25 s26 = some (v, σe) → WK 269 [(0, .ref (g.2.2 45)), (1, .int a1), (2, .int a2), (3, .int a3), (4, .long y9), (6, .int y10), (7, .long y11), (11, .int y15)] [.long y25, .long y14] s26)) h (fun y25 s26 h => ?_) (fun J269 hJ269 h => ?_)
                      ·
                        unfold mX11_snow_269 at h
                        refine k_ladd C (dk dX11_snow_4 15 rfl) ?_
                        refine nmL h (fun x27 h => ?_)
                        refine k_lstore (lv' := [(9, .long x27), (0, .ref (g.2.2 45)), (1, .int a1), (2, .int a2), (3, .int a3), (4, .long y9), (6, .int y10), (7, .long y11), (11, .int y15)]) C (dk dX11_snow_4 16 rfl) (by decide) rfl ?_
                        refine k_iinc (lv' := [(11, .int (y15 + 1)), (9, .long x27), (0, .ref (g.2.2 45)), (1, .int a1), (2, .int a2), (3, .int a3), (4, .long y9), (6, .int y10), (7, .long y11)]) C (dk dX11_snow_4 17 rfl) (j := 8) rfl rfl (by decide) rfl ?_
                        refine k_goto (tgt := 138) C (dk dX11_snow_4 18 rfl) (by decide) ?_
                        refine k_sub C [2, 3, 4, 5, 6, 7, 8, 1, 0] rfl ?_
                        exact hJ138 _ _ _ h
                      ·
                        refine k_if_eq (tgt := 268) C (dk dX11_snow_4 11 rfl) (by decide) h (fun h => ?_) (fun h => ?_)
                        ·
                          refine k_lconst (v := (0 : Int64)) C (dk dX11_snow_4 14 rfl) (by decide) ?_
                          refine k_sub C [0, 1, 2, 3, 4, 5, 6, 8] rfl ?_
                          exact hJ269 _ _ h
                        ·
                          refine k_lload C (dk dX11_snow_4 12 rfl) 10 rfl ?_
                          refine k_goto (tgt := 269) C (dk dX11_snow_4 13 rfl) (by decide) ?_
                          refine k_sub C [0, 1, 2, 3, 4, 5, 6, 8] rfl ?_
                          exact hJ269 _ _ h
                    ·
                      refine k_iload C (dk dX11_snow_2 22 rfl) 8 rfl ?_
                      refine k_iload C (dk dX11_snow_2 23 rfl) 11 rfl ?_
                      refine k_ishr C (dk dX11_snow_2 24 rfl) ?_
                      refine k_iconst (v := (1 : Int32)) C (dk dX11_snow_2 25 rfl) (by decide) ?_
                      refine k_iand C (dk dX11_snow_2 26 rfl) ?_
                      refine k_iconst (v := (1 : Int32)) C (dk dX11_snow_2 27 rfl) (by decide) ?_
                      refine kl_J (P := (fun J180 => ∀ (y28 : Int32) (s29 : St), J180 y28 s29 = some (v, σe) → WK 180 [(0, .ref (g.2.2 45)), (1, .int a1), (2, .int a2), (3, .int a3), (4, .long y9), (6, .int y10), (7, .long y11), (9, .long y14), (11, .int y15), (12, .long y19), (14, .long y20), (16, .int y21)] [.int y28] s29)) h (fun y28 s29 h => ?_) (fun J180 hJ180 h => ?_)
                      ·
                        unfold mX11_snow_180 at h
                        refine k_istore (lv' := [(17, .int y28), (0, .ref (g.2.2 45)), (1, .int a1), (2, .int a2), (3, .int a3), (4, .long y9), (6, .int y10), (7, .long y11), (9, .long y14), (11, .int y15), (12, .long y19), (14, .long y20), (16, .int y21)]) C (dk dX11_snow_3 0 rfl) (by decide) rfl ?_
                        refine k_lload C (dk dX11_snow_3 1 rfl) 10 rfl ?_
                        refine k_iload C (dk dX11_snow_3 2 rfl) 0 rfl ?_
                        refine kl_J (P := (fun J202 => ∀ (y30 : Int64) (s31 : St), J202 y30 s31 = some (v, σe) → WK 202 [(0, .ref (g.2.2 45)), (1, .int a1), (2, .int a2), (3, .int a3), (4, .long y9), (6, .int y10), (7, .long y11), (9, .long y14), (11, .int y15), (14, .long y20), (16, .int y21), (17, .int y28)] [.long y30, .long y19] s31)) h (fun y30 s31 h => ?_) (fun J202 hJ202 h => ?_)
                        ·
                          unfold mX11_snow_202 at h
                          refine k_lor C (dk dX11_snow_3 12 rfl) ?_
                          refine nmL h (fun x32 h => ?_)
                          refine k_lstore (lv' := [(12, .long x32), (0, .ref (g.2.2 45)), (1, .int a1), (2, .int a2), (3, .int a3), (4, .long y9), (6, .int y10), (7, .long y11), (9, .long y14), (11, .int y15), (14, .long y20), (16, .int y21), (17, .int y28)]) C (dk dX11_snow_3 13 rfl) (by decide) rfl ?_
                          refine k_lload C (dk dX11_snow_3 14 rfl) 10 rfl ?_
                          refine k_iload C (dk dX11_snow_3 15 rfl) 12 rfl ?_
                          refine kl_J (P := (fun J242 => ∀ (y33 : Int64) (s34 : St), J242 y33 s34 = some (v, σe) → WK 242 [(0, .ref (g.2.2 45)), (1, .int a1), (2, .int a2), (3, .int a3), (4, .long y9), (6, .int y10), (7, .long y11), (9, .long y14), (11, .int y15), (12, .long x32), (16, .int y21)] [.long y33, .long y20] s34)) h (fun y33 s34 h => ?_) (fun J242 hJ242 h => ?_)
                          ·
                            unfold mX11_snow_242 at h
                            refine k_lmul C (dk dX11_snow_4 2 rfl) ?_
                            refine nmL h (fun x35 h => ?_)
                            refine k_lstore (lv' := [(14, .long x35), (0, .ref (g.2.2 45)), (1, .int a1), (2, .int a2), (3, .int a3), (4, .long y9), (6, .int y10), (7, .long y11), (9, .long y14), (11, .int y15), (12, .long x32), (16, .int y21)]) C (dk dX11_snow_4 3 rfl) (by decide) rfl ?_
                            refine k_iinc (lv' := [(16, .int (y21 + 1)), (14, .long x35), (0, .ref (g.2.2 45)), (1, .int a1), (2, .int a2), (3, .int a3), (4, .long y9), (6, .int y10), (7, .long y11), (9, .long y14), (11, .int y15), (12, .long x32)]) C (dk dX11_snow_4 4 rfl) (j := 11) rfl rfl (by decide) rfl ?_
                            refine k_goto (tgt := 157) C (dk dX11_snow_4 5 rfl) (by decide) ?_
                            refine k_sub C [2, 3, 4, 5, 6, 7, 8, 9, 10, 11, 1, 0] rfl ?_
                            exact hJ157 _ _ _ _ h
                          ·
                            refine k_if_eq (tgt := 227) C (dk dX11_snow_3 16 rfl) (by decide) h (fun h => ?_) (fun h => ?_)
                            ·
                              refine k_bipush (v := (10 : Int32)) C (dk dX11_snow_3 25 rfl) (by decide) ?_
                              refine k_aload_n C (dk dX11_snow_3 26 rfl) rfl 1 rfl ?_
                              refine k_aload_n C (dk dX11_snow_3 27 rfl) rfl 1 rfl ?_
                              refine k_getR (q := 64) (D := RX11) (T := TX11) (N := 39) (ci := 6) (k := 36) C iCX11 rfl (by decide) rfl (by decide) (iW3 _ (List.mem_of_getElem? (i := 18) rfl)) rfl (dk dX11_snow_3 28 rfl) ?_
                              refine k_iload C (dk dX11_snow_3 29 rfl) 11 rfl ?_
                              refine k_iald C rfl rfl (dk dX11_snow_3 30 rfl) h (fun x36 h => ?_)
                              refine cl2_k h (fun x38 s37 hc h => ?_)
                              refine k_cv (T := TX11) (N := 39) (ci := 6) (ob := 45) (As := [.int x36]) (st := [.int (10 : Int32), .long y20]) C (qX11_chanceOf l g hg hc) (iW11 _ (List.mem_of_getElem? (i := 25) rfl)) (iW11 _ (List.mem_of_getElem? (i := 26) rfl)) (iW11 _ (List.mem_of_getElem? (i := 27) rfl)) (iW0 _ (List.mem_of_getElem? (i := 5) rfl)) (iW11 _ (List.mem_of_getElem? (i := 28) rfl)) rfl rfl hdX11_chanceOf (by decide) rfl (by decide) rfl rfl rfl (Nat.le_of_ble_eq_true rfl) (dk dX11_snow_3 31 rfl) ?_
                              refine k_isub C (dk dX11_snow_4 0 rfl) ?_
                              refine k_i2l C (dk dX11_snow_4 1 rfl) ?_
                              refine k_sub C [1, 2, 3, 4, 5, 6, 7, 8, 9, 0, 11] rfl ?_
                              exact hJ242 _ _ h
                            ·
                              refine k_aload_n C (dk dX11_snow_3 17 rfl) rfl 1 rfl ?_
                              refine k_aload_n C (dk dX11_snow_3 18 rfl) rfl 1 rfl ?_
                              refine k_getR (q := 64) (D := RX11) (T := TX11) (N := 39) (ci := 6) (k := 36) C iCX11 rfl (by decide) rfl (by decide) (iW3 _ (List.mem_of_getElem? (i := 18) rfl)) rfl (dk dX11_snow_3 19 rfl) ?_
                              refine k_iload C (dk dX11_snow_3 20 rfl) 11 rfl ?_
                              refine k_iald C rfl rfl (dk dX11_snow_3 21 rfl) h (fun x39 h => ?_)
                              refine cl2_k h (fun x41 s40 hc h => ?_)
                              refine k_cv (T := TX11) (N := 39) (ci := 6) (ob := 45) (As := [.int x39]) (st := [.long y20]) C (qX11_chanceOf l g hg hc) (iW11 _ (List.mem_of_getElem? (i := 25) rfl)) (iW11 _ (List.mem_of_getElem? (i := 26) rfl)) (iW11 _ (List.mem_of_getElem? (i := 27) rfl)) (iW0 _ (List.mem_of_getElem? (i := 5) rfl)) (iW11 _ (List.mem_of_getElem? (i := 28) rfl)) rfl rfl hdX11_chanceOf (by decide) rfl (by decide) rfl rfl rfl (Nat.le_of_ble_eq_true rfl) (dk dX11_snow_3 22 rfl) ?_
                              refine k_i2l C (dk dX11_snow_3 23 rfl) ?_
                              refine k_goto (tgt := 242) C (dk dX11_snow_3 24 rfl) (by decide) ?_
                              refine k_sub C [1, 2, 3, 4, 5, 6, 7, 8, 9, 0, 11] rfl ?_
                              exact hJ242 _ _ h
                        ·
                          refine k_if_eq (tgt := 201) C (dk dX11_snow_3 3 rfl) (by decide) h (fun h => ?_) (fun h => ?_)
                          ·
                            refine k_lconst (v := (0 : Int64)) C (dk dX11_snow_3 11 rfl) (by decide) ?_
                            refine k_sub C [1, 2, 3, 4, 5, 6, 7, 8, 9, 11, 12, 0] rfl ?_
                            exact hJ202 _ _ h
                          ·
                            refine k_lconst (v := (1 : Int64)) C (dk dX11_snow_3 4 rfl) (by decide) ?_
                            refine k_aload_n C (dk dX11_snow_3 5 rfl) rfl 1 rfl ?_
                            refine k_getR (q := 64) (D := RX11) (T := TX11) (N := 39) (ci := 6) (k := 36) C iCX11 rfl (by decide) rfl (by decide) (iW3 _ (List.mem_of_getElem? (i := 18) rfl)) rfl (dk dX11_snow_3 6 rfl) ?_
                            refine k_iload C (dk dX11_snow_3 7 rfl) 12 rfl ?_
                            refine k_iald C rfl rfl (dk dX11_snow_3 8 rfl) h (fun x42 h => ?_)
                            refine k_lshl C (dk dX11_snow_3 9 rfl) ?_
                            refine k_goto (tgt := 202) C (dk dX11_snow_3 10 rfl) (by decide) ?_
                            refine k_sub C [1, 2, 3, 4, 5, 6, 7, 8, 9, 11, 12, 0] rfl ?_
                            exact hJ202 _ _ h
                      ·
                        refine k_icmp_ne (tgt := 179) C (dk dX11_snow_2 28 rfl) (by decide) h (fun h => ?_) (fun h => ?_)
                        ·
                          refine k_iconst (v := (0 : Int32)) C (dk dX11_snow_2 31 rfl) (by decide) ?_
                          exact hJ180 _ _ h
                        ·
                          refine k_iconst (v := (1 : Int32)) C (dk dX11_snow_2 29 rfl) (by decide) ?_
                          refine k_goto (tgt := 180) C (dk dX11_snow_2 30 rfl) (by decide) ?_
                          exact hJ180 _ _ h
                  ·
                    refine k_sub C [3, 4, 5, 6, 7, 8, 9, 10, 11, 2, 1, 0] rfl ?_
                    exact hJ157 _ _ _ _ h
              ·
                refine k_sub C [2, 3, 4, 5, 6, 7, 8, 1, 0] rfl ?_
                exact hJ138 _ _ _ h
            ·
              refine k_lload C (dk dX11_snow_0 30 rfl) 4 rfl ?_
              refine k_aload_n C (dk dX11_snow_0 31 rfl) rfl 0 rfl ?_
              refine k_iload C (dk dX11_snow_1 0 rfl) 7 rfl ?_
              refine cl2_k h (fun x44 s43 hc h => ?_)
              refine k_cv (T := TX11) (N := 39) (ci := 6) (ob := 45) (As := [.int y12]) (st := [.long y9]) C (qX11_chanceOf l g hg hc) (iW11 _ (List.mem_of_getElem? (i := 25) rfl)) (iW11 _ (List.mem_of_getElem? (i := 26) rfl)) (iW11 _ (List.mem_of_getElem? (i := 27) rfl)) (iW0 _ (List.mem_of_getElem? (i := 5) rfl)) (iW11 _ (List.mem_of_getElem? (i := 28) rfl)) rfl rfl hdX11_chanceOf (by decide) rfl (by decide) rfl rfl rfl (Nat.le_of_ble_eq_true rfl) (dk dX11_snow_1 1 rfl) ?_
              refine k_bipush (v := (10 : Int32)) C (dk dX11_snow_1 2 rfl) (by decide) ?_
              refine kl_J (P := (fun J75 => ∀ (y45 : Int64) (s46 : St), J75 y45 s46 = some (v, σe) → WK 75 [(0, .ref (g.2.2 45)), (1, .int a1), (2, .int a2), (3, .int a3), (6, .int y10), (7, .long y11), (9, .int y12)] [.long y45, .long y9] s46)) h (fun y45 s46 h => ?_) (fun J75 hJ75 h => ?_)
              ·
                unfold mX11_snow_75 at h
                refine k_lor C (dk dX11_snow_1 9 rfl) ?_
                refine nmL h (fun x47 h => ?_)
                refine k_lstore (lv' := [(4, .long x47), (0, .ref (g.2.2 45)), (1, .int a1), (2, .int a2), (3, .int a3), (6, .int y10), (7, .long y11), (9, .int y12)]) C (dk dX11_snow_1 10 rfl) (by decide) rfl ?_
                refine k_aload_n C (dk dX11_snow_1 11 rfl) rfl 1 rfl ?_
                refine k_iload C (dk dX11_snow_1 12 rfl) 7 rfl ?_
                refine cl2_k h (fun x49 s48 hc h => ?_)
                refine k_cv (T := TX11) (N := 39) (ci := 6) (ob := 45) (As := [.int y12]) (st := []) C (qX11_chanceOf l g hg hc) (iW11 _ (List.mem_of_getElem? (i := 25) rfl)) (iW11 _ (List.mem_of_getElem? (i := 26) rfl)) (iW11 _ (List.mem_of_getElem? (i := 27) rfl)) (iW0 _ (List.mem_of_getElem? (i := 5) rfl)) (iW11 _ (List.mem_of_getElem? (i := 28) rfl)) rfl rfl hdX11_chanceOf (by decide) rfl (by decide) rfl rfl rfl (Nat.le_of_ble_eq_true rfl) (dk dX11_snow_1 13 rfl) ?_
                refine k_i2l C (dk dX11_snow_1 14 rfl) ?_
                refine k_lconst (v := (1 : Int64)) C (dk dX11_snow_1 15 rfl) (by decide) ?_
                refine k_ldc2 (v := (9 : Int64)) C (dk dX11_snow_1 16 rfl) (iW31 _ (List.mem_of_getElem? (i := 7) rfl)) ?_
                refine cl2_k h (fun x51 s50 hc h => ?_)
                refine k_cs (As := [.long x49.toInt64, .long (1 : Int64), .long (9 : Int64)]) (st := []) C (qX11_in l g hg hc) (iW8 _ (List.mem_of_getElem? (i := 16) rfl)) (iW8 _ (List.mem_of_getElem? (i := 17) rfl)) (iW0 _ (List.mem_of_getElem? (i := 5) rfl)) (iW8 _ (List.mem_of_getElem? (i := 18) rfl)) rfl rfl hdX11_in (by decide) rfl rfl (Nat.le_of_ble_eq_true rfl) (dk dX11_snow_1 17 rfl) ?_
                refine kl_J (P := (fun J126 => ∀ (y52 : Int32) (y53 : Int64) (y54 : Int32) (s55 : St), J126 y52 y53 y54 s55 = some (v, σe) → WK 126 [(0, .ref (g.2.2 45)), (1, .int a1), (2, .int a2), (3, .int a3), (4, .long x47), (6, .int y52), (7, .long y53), (9, .int y54)] [] s55)) h (fun y52 y53 y54 s55 h => ?_) (fun J126 hJ126 h => ?_)
                ·
                  unfold mX11_snow_126 at h
                  refine k_iinc (lv' := [(9, .int (y54 + 1)), (0, .ref (g.2.2 45)), (1, .int a1), (2, .int a2), (3, .int a3), (4, .long x47), (6, .int y52), (7, .long y53)]) C (dk dX11_snow_2 2 rfl) (j := 7) rfl rfl (by decide) rfl ?_
                  refine k_goto (tgt := 47) C (dk dX11_snow_2 3 rfl) (by decide) ?_
                  refine k_sub C [1, 2, 3, 4, 5, 6, 7, 0] rfl ?_
                  exact hJ47 _ _ _ _ _ h
                ·
                  refine k_if_eq (tgt := 126) C (dk dX11_snow_1 18 rfl) (by decide) h (fun h => ?_) (fun h => ?_)
                  ·
                    refine k_sub C [1, 2, 3, 4, 0, 5, 6, 7] rfl ?_
                    exact hJ126 _ _ _ _ h
                  ·
                    refine k_iload C (dk dX11_snow_1 19 rfl) 5 rfl ?_
                    refine k_bipush (v := (8 : Int32)) C (dk dX11_snow_1 20 rfl) (by decide) ?_
                    refine k_icmp_ne (tgt := 106) C (dk dX11_snow_1 21 rfl) (by decide) h (fun h => ?_) (fun h => ?_)
                    ·
                      refine k_aload_n C (dk dX11_snow_1 24 rfl) rfl 1 rfl ?_
                      refine k_getR (q := 64) (D := RX11) (T := TX11) (N := 39) (ci := 6) (k := 36) C iCX11 rfl (by decide) rfl (by decide) (iW3 _ (List.mem_of_getElem? (i := 18) rfl)) rfl (dk dX11_snow_1 25 rfl) ?_
                      refine k_iload C (dk dX11_snow_1 26 rfl) 5 rfl ?_
                      refine k_iload C (dk dX11_snow_1 27 rfl) 7 rfl ?_
                      refine k_iast C rfl rfl (dk dX11_snow_1 28 rfl) h (fun s56 h => ?_)
                      refine k_iinc (lv' := [(6, .int (y10 + 1)), (4, .long x47), (0, .ref (g.2.2 45)), (1, .int a1), (2, .int a2), (3, .int a3), (7, .long y11), (9, .int y12)]) C (dk dX11_snow_1 29 rfl) (j := 5) rfl rfl (by decide) rfl ?_
                      refine k_lload C (dk dX11_snow_1 30 rfl) 6 rfl ?_
                      refine k_ldc2 (v := (10 : Int64)) C (dk dX11_snow_1 31 rfl) (iW24 _ (List.mem_of_getElem? (i := 17) rfl)) ?_
                      refine k_lmul C (dk dX11_snow_2 0 rfl) ?_
                      refine nmL h (fun x57 h => ?_)
                      refine k_lstore (lv' := [(7, .long x57), (6, .int (y10 + 1)), (4, .long x47), (0, .ref (g.2.2 45)), (1, .int a1), (2, .int a2), (3, .int a3), (9, .int y12)]) C (dk dX11_snow_2 1 rfl) (by decide) rfl ?_
                      refine k_sub C [3, 4, 5, 6, 2, 1, 0, 7] rfl ?_
                      exact hJ126 _ _ _ _ h
                    ·
                      refine k_ldc2 (v := (-1000000003 : Int64)) C (dk dX11_snow_1 22 rfl) (iW31 _ (List.mem_of_getElem? (i := 8) rfl)) ?_
                      exact k_lret E (dk dX11_snow_1 23 rfl) h
              ·
                refine k_icmp_ne (tgt := 74) C (dk dX11_snow_1 3 rfl) (by decide) h (fun h => ?_) (fun h => ?_)
                ·
                  refine k_lconst (v := (0 : Int64)) C (dk dX11_snow_1 8 rfl) (by decide) ?_
                  refine k_sub C [0, 1, 2, 3, 5, 6, 7] rfl ?_
                  exact hJ75 _ _ h
                ·
                  refine k_lconst (v := (1 : Int64)) C (dk dX11_snow_1 4 rfl) (by decide) ?_
                  refine k_iload C (dk dX11_snow_1 5 rfl) 7 rfl ?_
                  refine k_lshl C (dk dX11_snow_1 6 rfl) ?_
                  refine k_goto (tgt := 75) C (dk dX11_snow_1 7 rfl) (by decide) ?_
                  refine k_sub C [0, 1, 2, 3, 5, 6, 7] rfl ?_
                  exact hJ75 _ _ h
          ·
            refine k_sub C [4, 5, 6, 7, 3, 2, 1, 0] rfl ?_
            exact hJ47 _ _ _ _ _ h
        ·
          refine k_sub C [] rfl ?_
          exact hJ31 _ h
