set_option maxRecDepth 100000 in
set_option maxHeartbeats 4000000 in
theorem qX11_layDaysFrom (l : Launch) (g : G) (hg : gOK g) {a1 : Int32} {a2 : Int32}  {s0 σe : St} (h : mX11_layDaysFrom a1 a2 s0 = some σe) : Mc l g yX11_layDaysFrom cX11_layDaysFrom 8 none { frames := 4, cells := 0, slots := 0, locals := 87 } [.ref (g.2.2 45), .int a1, .int a2] s0 none σe := by
  refine k_enter hg pnRX11 rfl (Nat.le_of_ble_eq_true rfl) ?_
  intro WK E
  have C := kX_y E
  unfold mX11_layDaysFrom at h
  show WK 0 [(0, .ref (g.2.2 45)), (1, .int a1), (2, .int a2)] [] s0
  refine k_iconst (v := (0 : Int32)) C (dk dX11_layDaysFrom_0 0 rfl) (by decide) ?_
  refine k_istore_n (lv' := [(3, .int (0 : Int32)), (0, .ref (g.2.2 45)), (1, .int a1), (2, .int a2)]) C (dk dX11_layDaysFrom_0 1 rfl) rfl (by decide) rfl ?_
  refine kl_L (P := (fun J2 => ∀ (y1 : Int32) (s2 : St), J2 y1 s2 = some σe → WK 2 [(0, .ref (g.2.2 45)), (1, .int a1), (2, .int a2), (3, .int y1)] [] s2)) h (fun _ _ h => nomatch h) (fun J2 hJ2 y1 s2 h => ?_) (fun J2 hJ2 h => ?_)
  ·
    unfold mX11_layDaysFrom_2 at h
    refine k_iload_n C (dk dX11_layDaysFrom_0 2 rfl) rfl 3 rfl ?_
    refine k_sipush (v := (1296 : Int32)) C (dk dX11_layDaysFrom_0 3 rfl) (by decide) ?_
    refine k_icmp_ge (tgt := 24) C (dk dX11_layDaysFrom_0 4 rfl) (by decide) h (fun h => ?_) (fun h => ?_)
    ·
      refine k_aload_n C (dk dX11_layDaysFrom_0 12 rfl) rfl 0 rfl ?_
      refine k_iload_n C (dk dX11_layDaysFrom_0 13 rfl) rfl 1 rfl ?_
      refine k_iload_n C (dk dX11_layDaysFrom_0 14 rfl) rfl 2 rfl ?_
      refine cl2_k h (fun x4 s3 hc h => ?_)
      refine k_cv (T := TX11) (N := 39) (ci := 6) (ob := 45) (As := [.int a1, .int a2]) (st := []) C (qX11_isPair l g hg hc) (iW17 _ (List.mem_of_getElem? (i := 8) rfl)) (iW17 _ (List.mem_of_getElem? (i := 9) rfl)) (iW17 _ (List.mem_of_getElem? (i := 10) rfl)) (iW0 _ (List.mem_of_getElem? (i := 5) rfl)) (iW17 _ (List.mem_of_getElem? (i := 11) rfl)) rfl rfl hdX11_isPair (by decide) rfl (by decide) rfl rfl rfl (Nat.le_of_ble_eq_true rfl) (dk dX11_layDaysFrom_0 15 rfl) ?_
      refine k_if_ne (tgt := 34) C (dk dX11_layDaysFrom_0 16 rfl) (by decide) h (fun h => ?_) (fun h => ?_)
      ·
        refine k_aload_n C (dk dX11_layDaysFrom_0 18 rfl) rfl 0 rfl ?_
        refine k_getR (q := 60) (D := RX11) (T := TX11) (N := 39) (ci := 6) (k := 32) C iCX11 rfl (by decide) rfl (by decide) (iW3 _ (List.mem_of_getElem? (i := 14) rfl)) rfl (dk dX11_layDaysFrom_0 19 rfl) ?_
        refine k_bipush (v := (36 : Int32)) C (dk dX11_layDaysFrom_0 20 rfl) (by decide) ?_
        refine k_iload_n C (dk dX11_layDaysFrom_0 21 rfl) rfl 1 rfl ?_
        refine k_imul C (dk dX11_layDaysFrom_0 22 rfl) ?_
        refine k_iload_n C (dk dX11_layDaysFrom_0 23 rfl) rfl 2 rfl ?_
        refine k_iadd C (dk dX11_layDaysFrom_0 24 rfl) ?_
        refine k_iconst (v := (0 : Int32)) C (dk dX11_layDaysFrom_0 25 rfl) (by decide) ?_
        refine k_iast C rfl rfl (dk dX11_layDaysFrom_0 26 rfl) h (fun s5 h => ?_)
        refine k_aload_n C (dk dX11_layDaysFrom_0 27 rfl) rfl 0 rfl ?_
        refine k_getR (q := 61) (D := RX11) (T := TX11) (N := 39) (ci := 6) (k := 33) C iCX11 rfl (by decide) rfl (by decide) (iW3 _ (List.mem_of_getElem? (i := 15) rfl)) rfl (dk dX11_layDaysFrom_0 28 rfl) ?_
        refine k_iconst (v := (0 : Int32)) C (dk dX11_layDaysFrom_0 29 rfl) (by decide) ?_
        refine k_bipush (v := (36 : Int32)) C (dk dX11_layDaysFrom_0 30 rfl) (by decide) ?_
        refine k_iload_n C (dk dX11_layDaysFrom_0 31 rfl) rfl 1 rfl ?_
        refine k_imul C (dk dX11_layDaysFrom_1 0 rfl) ?_
        refine k_iload_n C (dk dX11_layDaysFrom_1 1 rfl) rfl 2 rfl ?_
        refine k_iadd C (dk dX11_layDaysFrom_1 2 rfl) ?_
        refine k_iast C rfl rfl (dk dX11_layDaysFrom_1 3 rfl) h (fun s6 h => ?_)
        refine k_iconst (v := (1 : Int32)) C (dk dX11_layDaysFrom_1 4 rfl) (by decide) ?_
        refine k_istore_n (lv' := [(3, .int (1 : Int32)), (0, .ref (g.2.2 45)), (1, .int a1), (2, .int a2)]) C (dk dX11_layDaysFrom_1 5 rfl) rfl (by decide) rfl ?_
        refine k_iconst (v := (0 : Int32)) C (dk dX11_layDaysFrom_1 6 rfl) (by decide) ?_
        refine k_istore (lv' := [(4, .int (0 : Int32)), (3, .int (1 : Int32)), (0, .ref (g.2.2 45)), (1, .int a1), (2, .int a2)]) C (dk dX11_layDaysFrom_1 7 rfl) (by decide) rfl ?_
        refine kl_L (P := (fun J63 => ∀ (y7 : Int32) (y8 : Int32) (s9 : St), J63 y7 y8 s9 = some σe → WK 63 [(0, .ref (g.2.2 45)), (3, .int y7), (4, .int y8)] [] s9)) h (fun _ _ _ h => nomatch h) (fun J63 hJ63 y7 y8 s9 h => ?_) (fun J63 hJ63 h => ?_)
        ·
          unfold mX11_layDaysFrom_63 at h
          refine k_iload C (dk dX11_layDaysFrom_1 8 rfl) 2 rfl ?_
          refine k_iload_n C (dk dX11_layDaysFrom_1 9 rfl) rfl 1 rfl ?_
          refine k_icmp_ge (tgt := 215) C (dk dX11_layDaysFrom_1 10 rfl) (by decide) h (fun h => ?_) (fun h => ?_)
          ·
            exact k_vret E (dk dX11_layDaysFrom_3 26 rfl) h
          ·
            refine k_iconst (v := (0 : Int32)) C (dk dX11_layDaysFrom_1 11 rfl) (by decide) ?_
            refine k_istore (lv' := [(5, .int (0 : Int32)), (0, .ref (g.2.2 45)), (3, .int y7), (4, .int y8)]) C (dk dX11_layDaysFrom_1 12 rfl) (by decide) rfl ?_
            refine kl_L (P := (fun J72 => ∀ (y10 : Int32) (y11 : Int32) (s12 : St), J72 y10 y11 s12 = some σe → WK 72 [(0, .ref (g.2.2 45)), (3, .int y10), (4, .int y8), (5, .int y11)] [] s12)) h (fun _ _ _ h => nomatch h) (fun J72 hJ72 y10 y11 s12 h => ?_) (fun J72 hJ72 h => ?_)
            ·
              unfold mX11_layDaysFrom_72 at h
              refine k_iload C (dk dX11_layDaysFrom_1 13 rfl) 3 rfl ?_
              refine k_bipush (v := (25 : Int32)) C (dk dX11_layDaysFrom_1 14 rfl) (by decide) ?_
              refine k_icmp_ge (tgt := 209) C (dk dX11_layDaysFrom_1 15 rfl) (by decide) h (fun h => ?_) (fun h => ?_)
              ·
                refine k_iinc (lv' := [(4, .int (y8 + 1)), (0, .ref (g.2.2 45)), (3, .int y10), (5, .int y11)]) C (dk dX11_layDaysFrom_3 24 rfl) (j := 2) rfl rfl (by decide) rfl ?_
                refine k_goto (tgt := 63) C (dk dX11_layDaysFrom_3 25 rfl) (by decide) ?_
                refine k_sub C [1, 2, 0] rfl ?_
                exact hJ63 _ _ _ h
              ·
                refine k_aload_n C (dk dX11_layDaysFrom_1 16 rfl) rfl 0 rfl ?_
                refine k_aload_n C (dk dX11_layDaysFrom_1 17 rfl) rfl 0 rfl ?_
                refine k_getR (q := 61) (D := RX11) (T := TX11) (N := 39) (ci := 6) (k := 33) C iCX11 rfl (by decide) rfl (by decide) (iW3 _ (List.mem_of_getElem? (i := 15) rfl)) rfl (dk dX11_layDaysFrom_1 18 rfl) ?_
                refine k_iload C (dk dX11_layDaysFrom_1 19 rfl) 2 rfl ?_
                refine k_iald C rfl rfl (dk dX11_layDaysFrom_1 20 rfl) h (fun x13 h => ?_)
                refine k_bipush (v := (36 : Int32)) C (dk dX11_layDaysFrom_1 21 rfl) (by decide) ?_
                refine k_idiv C (dk dX11_layDaysFrom_1 22 rfl) (by decide) ?_
                refine k_iload C (dk dX11_layDaysFrom_1 23 rfl) 3 rfl ?_
                refine k_iconst (v := (5 : Int32)) C (dk dX11_layDaysFrom_1 24 rfl) (by decide) ?_
                refine k_idiv C (dk dX11_layDaysFrom_1 25 rfl) (by decide) ?_
                refine cl2_k h (fun x15 s14 hc h => ?_)
                refine k_cv (T := TX11) (N := 39) (ci := 6) (ob := 45) (As := [.int (x13 / (36 : Int32)), .int (y11 / (5 : Int32))]) (st := []) C (qX11_goneTo l g hg hc) (iW9 _ (List.mem_of_getElem? (i := 29) rfl)) (iW10 _ (List.mem_of_getElem? (i := 0) rfl)) (iW10 _ (List.mem_of_getElem? (i := 1) rfl)) (iW0 _ (List.mem_of_getElem? (i := 5) rfl)) (iW10 _ (List.mem_of_getElem? (i := 2) rfl)) rfl rfl hdX11_goneTo (by decide) rfl (by decide) rfl rfl rfl (Nat.le_of_ble_eq_true rfl) (dk dX11_layDaysFrom_1 26 rfl) ?_
                refine k_istore (lv' := [(6, .int x15), (0, .ref (g.2.2 45)), (3, .int y10), (4, .int y8), (5, .int y11)]) C (dk dX11_layDaysFrom_1 27 rfl) (by decide) rfl ?_
                refine k_aload_n C (dk dX11_layDaysFrom_1 28 rfl) rfl 1 rfl ?_
                refine k_aload_n C (dk dX11_layDaysFrom_1 29 rfl) rfl 1 rfl ?_
                refine k_getR (q := 61) (D := RX11) (T := TX11) (N := 39) (ci := 6) (k := 33) C iCX11 rfl (by decide) rfl (by decide) (iW3 _ (List.mem_of_getElem? (i := 15) rfl)) rfl (dk dX11_layDaysFrom_1 30 rfl) ?_
                refine k_iload C (dk dX11_layDaysFrom_1 31 rfl) 3 rfl ?_
                refine k_iald C rfl rfl (dk dX11_layDaysFrom_2 0 rfl) h (fun x16 h => ?_)
                refine k_bipush (v := (36 : Int32)) C (dk dX11_layDaysFrom_2 1 rfl) (by decide) ?_
                refine k_irem C (dk dX11_layDaysFrom_2 2 rfl) (by decide) ?_
                refine k_iload C (dk dX11_layDaysFrom_2 3 rfl) 4 rfl ?_
                refine k_iconst (v := (5 : Int32)) C (dk dX11_layDaysFrom_2 4 rfl) (by decide) ?_
                refine k_irem C (dk dX11_layDaysFrom_2 5 rfl) (by decide) ?_
                refine cl2_k h (fun x18 s17 hc h => ?_)
                refine k_cv (T := TX11) (N := 39) (ci := 6) (ob := 45) (As := [.int (x16 - x16 / (36 : Int32) * (36 : Int32)), .int (y11 - y11 / (5 : Int32) * (5 : Int32))]) (st := []) C (qX11_goneTo l g hg hc) (iW9 _ (List.mem_of_getElem? (i := 29) rfl)) (iW10 _ (List.mem_of_getElem? (i := 0) rfl)) (iW10 _ (List.mem_of_getElem? (i := 1) rfl)) (iW0 _ (List.mem_of_getElem? (i := 5) rfl)) (iW10 _ (List.mem_of_getElem? (i := 2) rfl)) rfl rfl hdX11_goneTo (by decide) rfl (by decide) rfl rfl rfl (Nat.le_of_ble_eq_true rfl) (dk dX11_layDaysFrom_2 6 rfl) ?_
                refine k_istore (lv' := [(7, .int x18), (6, .int x15), (0, .ref (g.2.2 45)), (3, .int y10), (4, .int y8), (5, .int y11)]) C (dk dX11_layDaysFrom_2 7 rfl) (by decide) rfl ?_
                refine k_iload C (dk dX11_layDaysFrom_2 8 rfl) 1 rfl ?_
                refine kl_J (P := (fun J203 => ∀ (y19 : Int32) (y20 : Int32) (s21 : St), J203 y19 y20 s21 = some σe → WK 203 [(0, .ref (g.2.2 45)), (3, .int y19), (4, .int y8), (5, .int y20)] [] s21)) h (fun y19 y20 s21 h => ?_) (fun J203 hJ203 h => ?_)
                ·
                  unfold mX11_layDaysFrom_203 at h
                  refine k_iinc (lv' := [(5, .int (y20 + 1)), (0, .ref (g.2.2 45)), (3, .int y19), (4, .int y8)]) C (dk dX11_layDaysFrom_3 22 rfl) (j := 3) rfl rfl (by decide) rfl ?_
                  refine k_goto (tgt := 72) C (dk dX11_layDaysFrom_3 23 rfl) (by decide) ?_
                  refine k_sub C [1, 2, 3, 0] rfl ?_
                  exact hJ72 _ _ _ h
                ·
                  refine k_if_lt (tgt := 203) C (dk dX11_layDaysFrom_2 9 rfl) (by decide) h (fun h => ?_) (fun h => ?_)
                  ·
                    refine k_sub C [2, 3, 4, 5] rfl ?_
                    exact hJ203 _ _ _ h
                  ·
                    refine k_iload C (dk dX11_layDaysFrom_2 10 rfl) 0 rfl ?_
                    refine k_if_lt (tgt := 203) C (dk dX11_layDaysFrom_2 11 rfl) (by decide) h (fun h => ?_) (fun h => ?_)
                    ·
                      refine k_sub C [2, 3, 4, 5] rfl ?_
                      exact hJ203 _ _ _ h
                    ·
                      refine k_aload_n C (dk dX11_layDaysFrom_2 12 rfl) rfl 2 rfl ?_
                      refine k_getR (q := 60) (D := RX11) (T := TX11) (N := 39) (ci := 6) (k := 32) C iCX11 rfl (by decide) rfl (by decide) (iW3 _ (List.mem_of_getElem? (i := 14) rfl)) rfl (dk dX11_layDaysFrom_2 13 rfl) ?_
                      refine k_bipush (v := (36 : Int32)) C (dk dX11_layDaysFrom_2 14 rfl) (by decide) ?_
                      refine k_iload C (dk dX11_layDaysFrom_2 15 rfl) 1 rfl ?_
                      refine k_imul C (dk dX11_layDaysFrom_2 16 rfl) ?_
                      refine k_iload C (dk dX11_layDaysFrom_2 17 rfl) 0 rfl ?_
                      refine k_iadd C (dk dX11_layDaysFrom_2 18 rfl) ?_
                      refine k_iald C rfl rfl (dk dX11_layDaysFrom_2 19 rfl) h (fun x22 h => ?_)
                      refine k_sipush (v := (9999 : Int32)) C (dk dX11_layDaysFrom_2 20 rfl) (by decide) ?_
                      refine k_icmp_ne (tgt := 203) C (dk dX11_layDaysFrom_2 21 rfl) (by decide) h (fun h => ?_) (fun h => ?_)
                      ·
                        refine k_sub C [2, 3, 4, 5] rfl ?_
                        exact hJ203 _ _ _ h
                      ·
                        refine k_aload_n C (dk dX11_layDaysFrom_2 22 rfl) rfl 2 rfl ?_
                        refine k_iload C (dk dX11_layDaysFrom_2 23 rfl) 1 rfl ?_
                        refine k_iload C (dk dX11_layDaysFrom_2 24 rfl) 0 rfl ?_
                        refine cl2_k h (fun x24 s23 hc h => ?_)
                        refine k_cv (T := TX11) (N := 39) (ci := 6) (ob := 45) (As := [.int x15, .int x18]) (st := []) C (qX11_isPair l g hg hc) (iW17 _ (List.mem_of_getElem? (i := 8) rfl)) (iW17 _ (List.mem_of_getElem? (i := 9) rfl)) (iW17 _ (List.mem_of_getElem? (i := 10) rfl)) (iW0 _ (List.mem_of_getElem? (i := 5) rfl)) (iW17 _ (List.mem_of_getElem? (i := 11) rfl)) rfl rfl hdX11_isPair (by decide) rfl (by decide) rfl rfl rfl (Nat.le_of_ble_eq_true rfl) (dk dX11_layDaysFrom_2 25 rfl) ?_
                        refine k_if_eq (tgt := 203) C (dk dX11_layDaysFrom_2 26 rfl) (by decide) h (fun h => ?_) (fun h => ?_)
                        ·
                          refine k_sub C [2, 3, 4, 5] rfl ?_
                          exact hJ203 _ _ _ h
                        ·
                          refine k_aload_n C (dk dX11_layDaysFrom_2 27 rfl) rfl 2 rfl ?_
                          refine k_getR (q := 60) (D := RX11) (T := TX11) (N := 39) (ci := 6) (k := 32) C iCX11 rfl (by decide) rfl (by decide) (iW3 _ (List.mem_of_getElem? (i := 14) rfl)) rfl (dk dX11_layDaysFrom_2 28 rfl) ?_
                          refine k_bipush (v := (36 : Int32)) C (dk dX11_layDaysFrom_2 29 rfl) (by decide) ?_
                          refine k_iload C (dk dX11_layDaysFrom_2 30 rfl) 1 rfl ?_
                          refine k_imul C (dk dX11_layDaysFrom_2 31 rfl) ?_
                          refine k_iload C (dk dX11_layDaysFrom_3 0 rfl) 0 rfl ?_
                          refine k_iadd C (dk dX11_layDaysFrom_3 1 rfl) ?_
                          refine k_aload_n C (dk dX11_layDaysFrom_3 2 rfl) rfl 2 rfl ?_
                          refine k_getR (q := 60) (D := RX11) (T := TX11) (N := 39) (ci := 6) (k := 32) C iCX11 rfl (by decide) rfl (by decide) (iW3 _ (List.mem_of_getElem? (i := 14) rfl)) rfl (dk dX11_layDaysFrom_3 3 rfl) ?_
                          refine k_aload_n C (dk dX11_layDaysFrom_3 4 rfl) rfl 2 rfl ?_
                          refine k_getR (q := 61) (D := RX11) (T := TX11) (N := 39) (ci := 6) (k := 33) C iCX11 rfl (by decide) rfl (by decide) (iW3 _ (List.mem_of_getElem? (i := 15) rfl)) rfl (dk dX11_layDaysFrom_3 5 rfl) ?_
                          refine k_iload C (dk dX11_layDaysFrom_3 6 rfl) 4 rfl ?_
                          refine k_iald C rfl rfl (dk dX11_layDaysFrom_3 7 rfl) h (fun x25 h => ?_)
                          refine k_iald C rfl rfl (dk dX11_layDaysFrom_3 8 rfl) h (fun x26 h => ?_)
                          refine k_iconst (v := (1 : Int32)) C (dk dX11_layDaysFrom_3 9 rfl) (by decide) ?_
                          refine k_iadd C (dk dX11_layDaysFrom_3 10 rfl) ?_
                          refine k_iast C rfl rfl (dk dX11_layDaysFrom_3 11 rfl) h (fun s27 h => ?_)
                          refine k_aload_n C (dk dX11_layDaysFrom_3 12 rfl) rfl 2 rfl ?_
                          refine k_getR (q := 61) (D := RX11) (T := TX11) (N := 39) (ci := 6) (k := 33) C iCX11 rfl (by decide) rfl (by decide) (iW3 _ (List.mem_of_getElem? (i := 15) rfl)) rfl (dk dX11_layDaysFrom_3 13 rfl) ?_
                          refine k_iload_n C (dk dX11_layDaysFrom_3 14 rfl) rfl 3 rfl ?_
                          refine k_bipush (v := (36 : Int32)) C (dk dX11_layDaysFrom_3 15 rfl) (by decide) ?_
                          refine k_iload C (dk dX11_layDaysFrom_3 16 rfl) 1 rfl ?_
                          refine k_imul C (dk dX11_layDaysFrom_3 17 rfl) ?_
                          refine k_iload C (dk dX11_layDaysFrom_3 18 rfl) 0 rfl ?_
                          refine k_iadd C (dk dX11_layDaysFrom_3 19 rfl) ?_
                          refine k_iast C rfl rfl (dk dX11_layDaysFrom_3 20 rfl) h (fun s28 h => ?_)
                          refine k_iinc (lv' := [(3, .int (y10 + 1)), (7, .int x18), (6, .int x15), (0, .ref (g.2.2 45)), (4, .int y8), (5, .int y11)]) C (dk dX11_layDaysFrom_3 21 rfl) (j := 3) rfl rfl (by decide) rfl ?_
                          refine k_sub C [3, 0, 4, 5] rfl ?_
                          exact hJ203 _ _ _ h
            ·
              refine k_sub C [1, 2, 3, 0] rfl ?_
              exact hJ72 _ _ _ h
        ·
          refine k_sub C [2, 1, 0] rfl ?_
          exact hJ63 _ _ _ h
      ·
        exact k_vret E (dk dX11_layDaysFrom_0 17 rfl) h
    ·
      refine k_aload_n C (dk dX11_layDaysFrom_0 5 rfl) rfl 0 rfl ?_
      refine k_getR (q := 60) (D := RX11) (T := TX11) (N := 39) (ci := 6) (k := 32) C iCX11 rfl (by decide) rfl (by decide) (iW3 _ (List.mem_of_getElem? (i := 14) rfl)) rfl (dk dX11_layDaysFrom_0 6 rfl) ?_
      refine k_iload_n C (dk dX11_layDaysFrom_0 7 rfl) rfl 3 rfl ?_
      refine k_sipush (v := (9999 : Int32)) C (dk dX11_layDaysFrom_0 8 rfl) (by decide) ?_
      refine k_iast C rfl rfl (dk dX11_layDaysFrom_0 9 rfl) h (fun s29 h => ?_)
      refine k_iinc (lv' := [(3, .int (y1 + 1)), (0, .ref (g.2.2 45)), (1, .int a1), (2, .int a2)]) C (dk dX11_layDaysFrom_0 10 rfl) (j := 3) rfl rfl (by decide) rfl ?_
      refine k_goto (tgt := 2) C (dk dX11_layDaysFrom_0 11 rfl) (by decide) ?_
      refine k_sub C [1, 2, 3, 0] rfl ?_
      exact hJ2 _ _ h
  ·
    refine k_sub C [1, 2, 3, 0] rfl ?_
    exact hJ2 _ _ h
set_option maxRecDepth 100000 in
set_option maxHeartbeats 4000000 in
theorem qX11_areBoth (l : Launch) (g : G) (hg : gOK g)   {s0 σe : St} {v : Int32} (h : mX11_areBoth s0 = some (v, σe)) : Mc l g yX11_areBoth cX11_areBoth 1 (some .boolean) { frames := 0, cells := 0, slots := 0, locals := 0 } [.ref (g.2.2 45)] s0 (some (.int v)) σe := by
  refine k_enter hg pnRX11 rfl (Nat.le_of_ble_eq_true rfl) ?_
  intro WK E
  have C := kX_y E
  unfold mX11_areBoth at h
  show WK 0 [(0, .ref (g.2.2 45))] [] s0
  refine k_aload_n C (dk dX11_areBoth_0 0 rfl) rfl 0 rfl ?_
  refine k_getI (D := RX11) (T := TX11) (N := 39) (ci := 6) (k := 5) C iCX11 rfl (by decide) rfl (by decide) (iW2 _ (List.mem_of_getElem? (i := 29) rfl)) rfl (dk dX11_areBoth_0 1 rfl) h (fun x1 h => ?_)
  refine k_if_lt (tgt := 18) C (dk dX11_areBoth_0 2 rfl) (by decide) h (fun h => ?_) (fun h => ?_)
  ·
    refine k_iconst (v := (0 : Int32)) C (dk dX11_areBoth_0 8 rfl) (by decide) ?_
    exact k_zret E (dk dX11_areBoth_0 9 rfl) h
  ·
    refine k_aload_n C (dk dX11_areBoth_0 3 rfl) rfl 0 rfl ?_
    refine k_getI (D := RX11) (T := TX11) (N := 39) (ci := 6) (k := 6) C iCX11 rfl (by decide) rfl (by decide) (iW3 _ (List.mem_of_getElem? (i := 0) rfl)) rfl (dk dX11_areBoth_0 4 rfl) h (fun x2 h => ?_)
    refine k_if_lt (tgt := 18) C (dk dX11_areBoth_0 5 rfl) (by decide) h (fun h => ?_) (fun h => ?_)
    ·
      refine k_iconst (v := (0 : Int32)) C (dk dX11_areBoth_0 8 rfl) (by decide) ?_
      exact k_zret E (dk dX11_areBoth_0 9 rfl) h
    ·
      refine k_iconst (v := (1 : Int32)) C (dk dX11_areBoth_0 6 rfl) (by decide) ?_
      refine k_goto (tgt := 19) C (dk dX11_areBoth_0 7 rfl) (by decide) ?_
      exact k_zret E (dk dX11_areBoth_0 9 rfl) h
set_option maxRecDepth 100000 in
set_option maxHeartbeats 4000000 in
theorem qX11_wrongTwo (l : Launch) (g : G) (hg : gOK g) {a1 : Int32} {a2 : Int32}  {s0 σe : St} {v : Int32} (h : mX11_wrongTwo a1 a2 s0 = some (v, σe)) : Mc l g yX11_wrongTwo cX11_wrongTwo 3 (some .int) { frames := 2, cells := 0, slots := 0, locals := 46 } [.ref (g.2.2 45), .int a1, .int a2] s0 (some (.int v)) σe := by
  refine k_enter hg pnRX11 rfl (Nat.le_of_ble_eq_true rfl) ?_
  intro WK E
  have C := kX_y E
  unfold mX11_wrongTwo at h
  show WK 0 [(0, .ref (g.2.2 45)), (1, .int a1), (2, .int a2)] [] s0
  refine k_iload_n C (dk dX11_wrongTwo_0 0 rfl) rfl 1 rfl ?_
  refine k_i2l C (dk dX11_wrongTwo_0 1 rfl) ?_
  refine cl2_k h (fun x2 s1 hc h => ?_)
  refine k_cs (As := [.long a1.toInt64]) (st := []) C (qX11_isCell l g hg hc) (iW11 _ (List.mem_of_getElem? (i := 21) rfl)) (iW11 _ (List.mem_of_getElem? (i := 22) rfl)) (iW0 _ (List.mem_of_getElem? (i := 5) rfl)) (iW11 _ (List.mem_of_getElem? (i := 23) rfl)) rfl rfl hdX11_isCell (by decide) rfl rfl (Nat.le_of_ble_eq_true rfl) (dk dX11_wrongTwo_0 2 rfl) ?_
  refine kl_J (P := (fun J16 => ∀ (s3 : St), J16 s3 = some (v, σe) → WK 16 [] [] s3)) h (fun s3 h => ?_) (fun J16 hJ16 h => ?_)
  ·
    unfold mX11_wrongTwo_16 at h
    refine k_iconst (v := (-1 : Int32)) C (dk dX11_wrongTwo_0 8 rfl) (by decide) ?_
    refine k_goto (tgt := 33) C (dk dX11_wrongTwo_0 9 rfl) (by decide) ?_
    exact k_iret E (dk dX11_wrongTwo_0 16 rfl) h
  ·
    refine k_if_eq (tgt := 16) C (dk dX11_wrongTwo_0 3 rfl) (by decide) h (fun h => ?_) (fun h => ?_)
    ·
      refine k_sub C [] rfl ?_
      exact hJ16 _ h
    ·
      refine k_iload_n C (dk dX11_wrongTwo_0 4 rfl) rfl 2 rfl ?_
      refine k_i2l C (dk dX11_wrongTwo_0 5 rfl) ?_
      refine cl2_k h (fun x5 s4 hc h => ?_)
      refine k_cs (As := [.long a2.toInt64]) (st := []) C (qX11_isCell l g hg hc) (iW11 _ (List.mem_of_getElem? (i := 21) rfl)) (iW11 _ (List.mem_of_getElem? (i := 22) rfl)) (iW0 _ (List.mem_of_getElem? (i := 5) rfl)) (iW11 _ (List.mem_of_getElem? (i := 23) rfl)) rfl rfl hdX11_isCell (by decide) rfl rfl (Nat.le_of_ble_eq_true rfl) (dk dX11_wrongTwo_0 6 rfl) ?_
      refine k_if_ne (tgt := 20) C (dk dX11_wrongTwo_0 7 rfl) (by decide) h (fun h => ?_) (fun h => ?_)
      ·
        refine k_aload_n C (dk dX11_wrongTwo_0 10 rfl) rfl 0 rfl ?_
        refine cl2_k h (fun x7 s6 hc h => ?_)
        refine k_cv (T := TX11) (N := 39) (ci := 6) (ob := 45) (As := []) (st := []) C (qX11_areBoth l g hg hc) (iW21 _ (List.mem_of_getElem? (i := 6) rfl)) (iW21 _ (List.mem_of_getElem? (i := 7) rfl)) (iW21 _ (List.mem_of_getElem? (i := 8) rfl)) (iW0 _ (List.mem_of_getElem? (i := 5) rfl)) (iW21 _ (List.mem_of_getElem? (i := 9) rfl)) rfl rfl hdX11_areBoth (by decide) rfl (by decide) rfl rfl rfl (Nat.le_of_ble_eq_true rfl) (dk dX11_wrongTwo_0 11 rfl) ?_
        refine k_if_eq (tgt := 31) C (dk dX11_wrongTwo_0 12 rfl) (by decide) h (fun h => ?_) (fun h => ?_)
        ·
          refine k_bipush (v := (-3 : Int32)) C (dk dX11_wrongTwo_0 15 rfl) (by decide) ?_
          exact k_iret E (dk dX11_wrongTwo_0 16 rfl) h
        ·
          refine k_iconst (v := (0 : Int32)) C (dk dX11_wrongTwo_0 13 rfl) (by decide) ?_
          refine k_goto (tgt := 33) C (dk dX11_wrongTwo_0 14 rfl) (by decide) ?_
          exact k_iret E (dk dX11_wrongTwo_0 16 rfl) h
      ·
        refine k_sub C [] rfl ?_
        exact hJ16 _ h
set_option maxRecDepth 100000 in
set_option maxHeartbeats 4000000 in
theorem qX11_seeDays (l : Launch) (g : G) (hg : gOK g) {a1 : Int32} {a2 : Int32}  {s0 σe : St} {v : Int32} (h : mX11_seeDays a1 a2 s0 = some (v, σe)) : Mc l g yX11_seeDays cX11_seeDays 4 (some .int) { frames := 5, cells := 0, slots := 0, locals := 114 } [.ref (g.2.2 45), .int a1, .int a2] s0 (some (.int v)) σe := by
  refine k_enter hg pnRX11 rfl (Nat.le_of_ble_eq_true rfl) ?_
  intro WK E
  have C := kX_y E
  unfold mX11_seeDays at h
  show WK 0 [(0, .ref (g.2.2 45)), (1, .int a1), (2, .int a2)] [] s0
  refine k_aload_n C (dk dX11_seeDays_0 0 rfl) rfl 0 rfl ?_
  refine k_iload_n C (dk dX11_seeDays_0 1 rfl) rfl 1 rfl ?_
  refine k_iload_n C (dk dX11_seeDays_0 2 rfl) rfl 2 rfl ?_
  refine cl1_k h (fun s1 hc h => ?_)
  refine k_cv (T := TX11) (N := 39) (ci := 6) (ob := 45) (As := [.int a1, .int a2]) (st := []) C (qX11_layDaysFrom l g hg hc) (iW21 _ (List.mem_of_getElem? (i := 14) rfl)) (iW21 _ (List.mem_of_getElem? (i := 15) rfl)) (iW21 _ (List.mem_of_getElem? (i := 16) rfl)) (iW0 _ (List.mem_of_getElem? (i := 5) rfl)) (iW21 _ (List.mem_of_getElem? (i := 17) rfl)) rfl rfl hdX11_layDaysFrom (by decide) rfl (by decide) rfl rfl rfl (Nat.le_of_ble_eq_true rfl) (dk dX11_seeDays_0 3 rfl) ?_
  refine k_aload_n C (dk dX11_seeDays_0 4 rfl) rfl 0 rfl ?_
  refine k_aload_n C (dk dX11_seeDays_0 5 rfl) rfl 0 rfl ?_
  refine k_getI (D := RX11) (T := TX11) (N := 39) (ci := 6) (k := 5) C iCX11 rfl (by decide) rfl (by decide) (iW2 _ (List.mem_of_getElem? (i := 29) rfl)) rfl (dk dX11_seeDays_0 6 rfl) h (fun x2 h => ?_)
  refine k_aload_n C (dk dX11_seeDays_0 7 rfl) rfl 0 rfl ?_
  refine k_getI (D := RX11) (T := TX11) (N := 39) (ci := 6) (k := 6) C iCX11 rfl (by decide) rfl (by decide) (iW3 _ (List.mem_of_getElem? (i := 0) rfl)) rfl (dk dX11_seeDays_0 8 rfl) h (fun x3 h => ?_)
  refine cl2_k h (fun x5 s4 hc h => ?_)
  refine k_cv (T := TX11) (N := 39) (ci := 6) (ob := 45) (As := [.int x2, .int x3]) (st := []) C (qX11_isPair l g hg hc) (iW17 _ (List.mem_of_getElem? (i := 8) rfl)) (iW17 _ (List.mem_of_getElem? (i := 9) rfl)) (iW17 _ (List.mem_of_getElem? (i := 10) rfl)) (iW0 _ (List.mem_of_getElem? (i := 5) rfl)) (iW17 _ (List.mem_of_getElem? (i := 11) rfl)) rfl rfl hdX11_isPair (by decide) rfl (by decide) rfl rfl rfl (Nat.le_of_ble_eq_true rfl) (dk dX11_seeDays_0 9 rfl) ?_
  refine kl_J (P := (fun J44 => ∀ (y6 : Int32) (s7 : St), J44 y6 s7 = some (v, σe) → WK 44 [] [.int y6] s7)) h (fun y6 s7 h => ?_) (fun J44 hJ44 h => ?_)
  ·
    unfold mX11_seeDays_44 at h
    refine k_istore_n (lv' := [(3, .int y6)]) C (dk dX11_seeDays_0 23 rfl) rfl (by decide) rfl ?_
    refine k_iload_n C (dk dX11_seeDays_0 24 rfl) rfl 0 rfl ?_
    refine k_sipush (v := (9999 : Int32)) C (dk dX11_seeDays_0 25 rfl) (by decide) ?_
    refine k_icmp_ge (tgt := 56) C (dk dX11_seeDays_0 26 rfl) (by decide) h (fun h => ?_) (fun h => ?_)
    ·
      refine k_bipush (v := (-4 : Int32)) C (dk dX11_seeDays_0 29 rfl) (by decide) ?_
      exact k_iret E (dk dX11_seeDays_0 30 rfl) h
    ·
      refine k_iload_n C (dk dX11_seeDays_0 27 rfl) rfl 0 rfl ?_
      refine k_goto (tgt := 58) C (dk dX11_seeDays_0 28 rfl) (by decide) ?_
      exact k_iret E (dk dX11_seeDays_0 30 rfl) h
  ·
    refine k_if_eq (tgt := 41) C (dk dX11_seeDays_0 10 rfl) (by decide) h (fun h => ?_) (fun h => ?_)
    ·
      refine k_sipush (v := (9999 : Int32)) C (dk dX11_seeDays_0 22 rfl) (by decide) ?_
      refine k_sub C [] rfl ?_
      exact hJ44 _ _ h
    ·
      refine k_aload_n C (dk dX11_seeDays_0 11 rfl) rfl 0 rfl ?_
      refine k_getR (q := 60) (D := RX11) (T := TX11) (N := 39) (ci := 6) (k := 32) C iCX11 rfl (by decide) rfl (by decide) (iW3 _ (List.mem_of_getElem? (i := 14) rfl)) rfl (dk dX11_seeDays_0 12 rfl) ?_
      refine k_bipush (v := (36 : Int32)) C (dk dX11_seeDays_0 13 rfl) (by decide) ?_
      refine k_aload_n C (dk dX11_seeDays_0 14 rfl) rfl 0 rfl ?_
      refine k_getI (D := RX11) (T := TX11) (N := 39) (ci := 6) (k := 5) C iCX11 rfl (by decide) rfl (by decide) (iW2 _ (List.mem_of_getElem? (i := 29) rfl)) rfl (dk dX11_seeDays_0 15 rfl) h (fun x8 h => ?_)
      refine k_imul C (dk dX11_seeDays_0 16 rfl) ?_
      refine k_aload_n C (dk dX11_seeDays_0 17 rfl) rfl 0 rfl ?_
      refine k_getI (D := RX11) (T := TX11) (N := 39) (ci := 6) (k := 6) C iCX11 rfl (by decide) rfl (by decide) (iW3 _ (List.mem_of_getElem? (i := 0) rfl)) rfl (dk dX11_seeDays_0 18 rfl) h (fun x9 h => ?_)
      refine k_iadd C (dk dX11_seeDays_0 19 rfl) ?_
      refine k_iald C rfl rfl (dk dX11_seeDays_0 20 rfl) h (fun x10 h => ?_)
      refine k_goto (tgt := 44) C (dk dX11_seeDays_0 21 rfl) (by decide) ?_
      refine k_sub C [] rfl ?_
      exact hJ44 _ _ h
set_option maxRecDepth 100000 in
set_option maxHeartbeats 4000000 in
theorem qX11_see (l : Launch) (g : G) (hg : gOK g) {a1 : Int32} {a2 : Int32}  {s0 σe : St} {v : Int32} (h : mX11_see a1 a2 s0 = some (v, σe)) : Mc l g yX11_see cX11_see 3 (some .int) { frames := 6, cells := 0, slots := 0, locals := 137 } [.ref (g.2.2 45), .int a1, .int a2] s0 (some (.int v)) σe := by
  refine k_enter hg pnRX11 rfl (Nat.le_of_ble_eq_true rfl) ?_
  intro WK E
  have C := kX_y E
  unfold mX11_see at h
  show WK 0 [(0, .ref (g.2.2 45)), (1, .int a1), (2, .int a2)] [] s0
  refine k_aload_n C (dk dX11_see_0 0 rfl) rfl 0 rfl ?_
  refine k_iconst (v := (0 : Int32)) C (dk dX11_see_0 1 rfl) (by decide) ?_
  refine k_putI (D := RX11) (T := TX11) (N := 39) (ci := 6) (k := 16) C iCX11 tyX11_ok nmX11 rfl (by decide) rfl (by decide) (iW3 _ (List.mem_of_getElem? (i := 20) rfl)) rfl rfl flq6_16 flp6_16 (dk dX11_see_0 2 rfl) h (fun s1 h => ?_)
  refine k_aload_n C (dk dX11_see_0 3 rfl) rfl 0 rfl ?_
  refine k_iload_n C (dk dX11_see_0 4 rfl) rfl 1 rfl ?_
  refine k_iload_n C (dk dX11_see_0 5 rfl) rfl 2 rfl ?_
  refine cl2_k h (fun x3 s2 hc h => ?_)
  refine k_cv (T := TX11) (N := 39) (ci := 6) (ob := 45) (As := [.int a1, .int a2]) (st := []) C (qX11_wrongTwo l g hg hc) (iW21 _ (List.mem_of_getElem? (i := 2) rfl)) (iW21 _ (List.mem_of_getElem? (i := 3) rfl)) (iW21 _ (List.mem_of_getElem? (i := 4) rfl)) (iW0 _ (List.mem_of_getElem? (i := 5) rfl)) (iW21 _ (List.mem_of_getElem? (i := 5) rfl)) rfl rfl hdX11_wrongTwo (by decide) rfl (by decide) rfl rfl rfl (Nat.le_of_ble_eq_true rfl) (dk dX11_see_0 6 rfl) ?_
  refine k_if_ge (tgt := 23) C (dk dX11_see_0 7 rfl) (by decide) h (fun h => ?_) (fun h => ?_)
  ·
    refine k_aload_n C (dk dX11_see_0 13 rfl) rfl 0 rfl ?_
    refine k_iload_n C (dk dX11_see_0 14 rfl) rfl 1 rfl ?_
    refine k_iload_n C (dk dX11_see_0 15 rfl) rfl 2 rfl ?_
    refine cl2_k h (fun x5 s4 hc h => ?_)
    refine k_cv (T := TX11) (N := 39) (ci := 6) (ob := 45) (As := [.int a1, .int a2]) (st := []) C (qX11_seeDays l g hg hc) (iW21 _ (List.mem_of_getElem? (i := 10) rfl)) (iW21 _ (List.mem_of_getElem? (i := 11) rfl)) (iW21 _ (List.mem_of_getElem? (i := 12) rfl)) (iW0 _ (List.mem_of_getElem? (i := 5) rfl)) (iW21 _ (List.mem_of_getElem? (i := 13) rfl)) rfl rfl hdX11_seeDays (by decide) rfl (by decide) rfl rfl rfl (Nat.le_of_ble_eq_true rfl) (dk dX11_see_0 16 rfl) ?_
    exact k_iret E (dk dX11_see_0 17 rfl) h
  ·
    refine k_aload_n C (dk dX11_see_0 8 rfl) rfl 0 rfl ?_
    refine k_iload_n C (dk dX11_see_0 9 rfl) rfl 1 rfl ?_
    refine k_iload_n C (dk dX11_see_0 10 rfl) rfl 2 rfl ?_
    refine cl2_k h (fun x7 s6 hc h => ?_)
    refine k_cv (T := TX11) (N := 39) (ci := 6) (ob := 45) (As := [.int a1, .int a2]) (st := []) C (qX11_wrongTwo l g hg hc) (iW21 _ (List.mem_of_getElem? (i := 2) rfl)) (iW21 _ (List.mem_of_getElem? (i := 3) rfl)) (iW21 _ (List.mem_of_getElem? (i := 4) rfl)) (iW0 _ (List.mem_of_getElem? (i := 5) rfl)) (iW21 _ (List.mem_of_getElem? (i := 5) rfl)) rfl rfl hdX11_wrongTwo (by decide) rfl (by decide) rfl rfl rfl (Nat.le_of_ble_eq_true rfl) (dk dX11_see_0 11 rfl) ?_
    refine k_goto (tgt := 29) C (dk dX11_see_0 12 rfl) (by decide) ?_
    exact k_iret E (dk dX11_see_0 17 rfl) h
set_option maxRecDepth 100000 in
set_option maxHeartbeats 4000000 in
theorem qX11_way (l : Launch) (g : G) (hg : gOK g) {a1 : Int32} {a2 : Int32} {a3 : Int32}  {s0 σe : St} {v : Int32} (h : mX11_way a1 a2 a3 s0 = some (v, σe)) : Mc l g yX11_way cX11_way 14 (some .int) { frames := 6, cells := 0, slots := 0, locals := 137 } [.ref (g.2.2 45), .int a1, .int a2, .int a3] s0 (some (.int v)) σe := by
  refine k_enter hg pnRX11 rfl (Nat.le_of_ble_eq_true rfl) ?_
  intro WK E
  have C := kX_y E
  unfold mX11_way at h
  show WK 0 [(0, .ref (g.2.2 45)), (1, .int a1), (2, .int a2), (3, .int a3)] [] s0
  refine k_aload_n C (dk dX11_way_0 0 rfl) rfl 0 rfl ?_
  refine k_iconst (v := (0 : Int32)) C (dk dX11_way_0 1 rfl) (by decide) ?_
  refine k_putI (D := RX11) (T := TX11) (N := 39) (ci := 6) (k := 16) C iCX11 tyX11_ok nmX11 rfl (by decide) rfl (by decide) (iW3 _ (List.mem_of_getElem? (i := 20) rfl)) rfl rfl flq6_16 flp6_16 (dk dX11_way_0 2 rfl) h (fun s1 h => ?_)
  refine k_iload_n C (dk dX11_way_0 3 rfl) rfl 3 rfl ?_
  refine kl_J (P := (fun J19 => ∀ (y2 : Int32) (s3 : St), J19 y2 s3 = some (v, σe) → WK 19 [(0, .ref (g.2.2 45)), (1, .int a1), (2, .int a2), (3, .int a3)] [.int y2] s3)) h (fun y2 s3 h => ?_) (fun J19 hJ19 h => ?_)
  ·
    unfold mX11_way_19 at h
    refine k_istore (lv' := [(4, .int y2), (0, .ref (g.2.2 45)), (1, .int a1), (2, .int a2), (3, .int a3)]) C (dk dX11_way_0 11 rfl) (by decide) rfl ?_
    refine k_iload C (dk dX11_way_0 12 rfl) 0 rfl ?_
    refine k_if_ge (tgt := 29) C (dk dX11_way_0 13 rfl) (by decide) h (fun h => ?_) (fun h => ?_)
    ·
      refine k_aload_n C (dk dX11_way_0 16 rfl) rfl 1 rfl ?_
      refine k_iload_n C (dk dX11_way_0 17 rfl) rfl 2 rfl ?_
      refine k_iload_n C (dk dX11_way_0 18 rfl) rfl 3 rfl ?_
      refine cl2_k h (fun x5 s4 hc h => ?_)
      refine k_cv (T := TX11) (N := 39) (ci := 6) (ob := 45) (As := [.int a1, .int a2]) (st := []) C (qX11_seeDays l g hg hc) (iW21 _ (List.mem_of_getElem? (i := 10) rfl)) (iW21 _ (List.mem_of_getElem? (i := 11) rfl)) (iW21 _ (List.mem_of_getElem? (i := 12) rfl)) (iW0 _ (List.mem_of_getElem? (i := 5) rfl)) (iW21 _ (List.mem_of_getElem? (i := 13) rfl)) rfl rfl hdX11_seeDays (by decide) rfl (by decide) rfl rfl rfl (Nat.le_of_ble_eq_true rfl) (dk dX11_way_0 19 rfl) ?_
      refine k_istore (lv' := [(5, .int x5), (4, .int y2), (0, .ref (g.2.2 45)), (1, .int a1), (2, .int a2), (3, .int a3)]) C (dk dX11_way_0 20 rfl) (by decide) rfl ?_
      refine k_iload_n C (dk dX11_way_0 21 rfl) rfl 5 rfl ?_
      refine k_iload C (dk dX11_way_0 22 rfl) 0 rfl ?_
      refine k_icmp_le (tgt := 46) C (dk dX11_way_0 23 rfl) (by decide) h (fun h => ?_) (fun h => ?_)
      ·
        refine k_aload_n C (dk dX11_way_0 26 rfl) rfl 2 rfl ?_
        refine k_getI (D := RX11) (T := TX11) (N := 39) (ci := 6) (k := 5) C iCX11 rfl (by decide) rfl (by decide) (iW2 _ (List.mem_of_getElem? (i := 29) rfl)) rfl (dk dX11_way_0 27 rfl) h (fun x6 h => ?_)
        refine k_istore (lv' := [(6, .int x6), (5, .int x5), (4, .int y2), (0, .ref (g.2.2 45)), (1, .int a1), (2, .int a2), (3, .int a3)]) C (dk dX11_way_0 28 rfl) (by decide) rfl ?_
        refine k_aload_n C (dk dX11_way_0 29 rfl) rfl 3 rfl ?_
        refine k_getI (D := RX11) (T := TX11) (N := 39) (ci := 6) (k := 6) C iCX11 rfl (by decide) rfl (by decide) (iW3 _ (List.mem_of_getElem? (i := 0) rfl)) rfl (dk dX11_way_0 30 rfl) h (fun x7 h => ?_)
        refine k_istore (lv' := [(7, .int x7), (6, .int x6), (5, .int x5), (4, .int y2), (0, .ref (g.2.2 45)), (1, .int a1), (2, .int a2), (3, .int a3)]) C (dk dX11_way_0 31 rfl) (by decide) rfl ?_
        refine k_iconst (v := (0 : Int32)) C (dk dX11_way_1 0 rfl) (by decide) ?_
        refine k_istore (lv' := [(8, .int (0 : Int32)), (7, .int x7), (6, .int x6), (5, .int x5), (4, .int y2), (0, .ref (g.2.2 45)), (1, .int a1), (2, .int a2), (3, .int a3)]) C (dk dX11_way_1 1 rfl) (by decide) rfl ?_
        refine kl_L (P := (fun J61 => ∀ (y8 : Int32) (y9 : Int32) (y10 : Int32) (s11 : St), J61 y8 y9 y10 s11 = some (v, σe) → WK 61 [(0, .ref (g.2.2 45)), (3, .int a3), (5, .int x5), (6, .int y8), (7, .int y9), (8, .int y10)] [] s11)) h (fun _ _ _ _ h => nomatch h) (fun J61 hJ61 y8 y9 y10 s11 h => ?_) (fun J61 hJ61 h => ?_)
        ·
          unfold mX11_way_61 at h
          refine k_iload C (dk dX11_way_1 2 rfl) 5 rfl ?_
          refine k_iload_n C (dk dX11_way_1 3 rfl) rfl 1 rfl ?_
          refine k_icmp_ge (tgt := 208) C (dk dX11_way_1 4 rfl) (by decide) h (fun h => ?_) (fun h => ?_)
          ·
            refine k_bipush (v := (100 : Int32)) C (dk dX11_way_3 15 rfl) (by decide) ?_
            refine k_iload C (dk dX11_way_3 16 rfl) 3 rfl ?_
            refine k_imul C (dk dX11_way_3 17 rfl) ?_
            refine k_iload C (dk dX11_way_3 18 rfl) 4 rfl ?_
            refine k_iadd C (dk dX11_way_3 19 rfl) ?_
            exact k_iret E (dk dX11_way_3 20 rfl) h
          ·
            refine k_iconst (v := (-1 : Int32)) C (dk dX11_way_1 5 rfl) (by decide) ?_
            refine k_istore (lv' := [(9, .int (-1 : Int32)), (0, .ref (g.2.2 45)), (3, .int a3), (5, .int x5), (6, .int y8), (7, .int y9), (8, .int y10)]) C (dk dX11_way_1 6 rfl) (by decide) rfl ?_
            refine k_iconst (v := (0 : Int32)) C (dk dX11_way_1 7 rfl) (by decide) ?_
            refine k_istore (lv' := [(10, .int (0 : Int32)), (9, .int (-1 : Int32)), (0, .ref (g.2.2 45)), (3, .int a3), (5, .int x5), (6, .int y8), (7, .int y9), (8, .int y10)]) C (dk dX11_way_1 8 rfl) (by decide) rfl ?_
            refine kl_L (P := (fun J73 => ∀ (y12 : Int32) (y13 : Int32) (s14 : St), J73 y12 y13 s14 = some (v, σe) → WK 73 [(0, .ref (g.2.2 45)), (3, .int a3), (5, .int x5), (6, .int y8), (7, .int y9), (8, .int y10), (9, .int y12), (10, .int y13)] [] s14)) h (fun _ _ _ h => nomatch h) (fun J73 hJ73 y12 y13 s14 h => ?_) (fun J73 hJ73 h => ?_)
            ·
              unfold mX11_way_73 at h
              refine k_iload C (dk dX11_way_1 9 rfl) 7 rfl ?_
              refine k_bipush (v := (25 : Int32)) C (dk dX11_way_1 10 rfl) (by decide) ?_
              refine k_icmp_ge (tgt := 188) C (dk dX11_way_1 11 rfl) (by decide) h (fun h => ?_) (fun h => ?_)
              ·
                refine k_iload C (dk dX11_way_3 5 rfl) 6 rfl ?_
                refine k_bipush (v := (36 : Int32)) C (dk dX11_way_3 6 rfl) (by decide) ?_
                refine k_idiv C (dk dX11_way_3 7 rfl) (by decide) ?_
                refine nmI h (fun x15 h => ?_)
                refine k_istore (lv' := [(6, .int x15), (0, .ref (g.2.2 45)), (3, .int a3), (5, .int x5), (7, .int y9), (8, .int y10), (9, .int y12), (10, .int y13)]) C (dk dX11_way_3 8 rfl) (by decide) rfl ?_
                refine k_iload C (dk dX11_way_3 9 rfl) 6 rfl ?_
                refine k_bipush (v := (36 : Int32)) C (dk dX11_way_3 10 rfl) (by decide) ?_
                refine k_irem C (dk dX11_way_3 11 rfl) (by decide) ?_
                refine nmI h (fun x16 h => ?_)
                refine k_istore (lv' := [(7, .int x16), (6, .int x15), (0, .ref (g.2.2 45)), (3, .int a3), (5, .int x5), (8, .int y10), (9, .int y12), (10, .int y13)]) C (dk dX11_way_3 12 rfl) (by decide) rfl ?_
                refine k_iinc (lv' := [(8, .int (y10 + 1)), (7, .int x16), (6, .int x15), (0, .ref (g.2.2 45)), (3, .int a3), (5, .int x5), (9, .int y12), (10, .int y13)]) C (dk dX11_way_3 13 rfl) (j := 5) rfl rfl (by decide) rfl ?_
                refine k_goto (tgt := 61) C (dk dX11_way_3 14 rfl) (by decide) ?_
                refine k_sub C [3, 4, 5, 2, 1, 0] rfl ?_
                exact hJ61 _ _ _ _ h
              ·
                refine k_aload_n C (dk dX11_way_1 12 rfl) rfl 0 rfl ?_
                refine k_iload C (dk dX11_way_1 13 rfl) 3 rfl ?_
                refine k_iload C (dk dX11_way_1 14 rfl) 7 rfl ?_
                refine k_iconst (v := (5 : Int32)) C (dk dX11_way_1 15 rfl) (by decide) ?_
                refine k_idiv C (dk dX11_way_1 16 rfl) (by decide) ?_
                refine cl2_k h (fun x18 s17 hc h => ?_)
                refine k_cv (T := TX11) (N := 39) (ci := 6) (ob := 45) (As := [.int y8, .int (y13 / (5 : Int32))]) (st := []) C (qX11_goneTo l g hg hc) (iW9 _ (List.mem_of_getElem? (i := 29) rfl)) (iW10 _ (List.mem_of_getElem? (i := 0) rfl)) (iW10 _ (List.mem_of_getElem? (i := 1) rfl)) (iW0 _ (List.mem_of_getElem? (i := 5) rfl)) (iW10 _ (List.mem_of_getElem? (i := 2) rfl)) rfl rfl hdX11_goneTo (by decide) rfl (by decide) rfl rfl rfl (Nat.le_of_ble_eq_true rfl) (dk dX11_way_1 17 rfl) ?_
                refine k_istore (lv' := [(11, .int x18), (0, .ref (g.2.2 45)), (3, .int a3), (5, .int x5), (6, .int y8), (7, .int y9), (8, .int y10), (9, .int y12), (10, .int y13)]) C (dk dX11_way_1 18 rfl) (by decide) rfl ?_
                refine k_aload_n C (dk dX11_way_1 19 rfl) rfl 1 rfl ?_
                refine k_iload C (dk dX11_way_1 20 rfl) 5 rfl ?_
                refine k_iload C (dk dX11_way_1 21 rfl) 8 rfl ?_
                refine k_iconst (v := (5 : Int32)) C (dk dX11_way_1 22 rfl) (by decide) ?_
                refine k_irem C (dk dX11_way_1 23 rfl) (by decide) ?_
                refine cl2_k h (fun x20 s19 hc h => ?_)
                refine k_cv (T := TX11) (N := 39) (ci := 6) (ob := 45) (As := [.int y9, .int (y13 - y13 / (5 : Int32) * (5 : Int32))]) (st := []) C (qX11_goneTo l g hg hc) (iW9 _ (List.mem_of_getElem? (i := 29) rfl)) (iW10 _ (List.mem_of_getElem? (i := 0) rfl)) (iW10 _ (List.mem_of_getElem? (i := 1) rfl)) (iW0 _ (List.mem_of_getElem? (i := 5) rfl)) (iW10 _ (List.mem_of_getElem? (i := 2) rfl)) rfl rfl hdX11_goneTo (by decide) rfl (by decide) rfl rfl rfl (Nat.le_of_ble_eq_true rfl) (dk dX11_way_1 24 rfl) ?_
                refine k_istore (lv' := [(12, .int x20), (11, .int x18), (0, .ref (g.2.2 45)), (3, .int a3), (5, .int x5), (6, .int y8), (7, .int y9), (8, .int y10), (9, .int y12), (10, .int y13)]) C (dk dX11_way_1 25 rfl) (by decide) rfl ?_
                refine k_iload C (dk dX11_way_1 26 rfl) 1 rfl ?_
                refine kl_J (P := (fun J142 => ∀ (y21 : Int32) (s22 : St), J142 y21 s22 = some (v, σe) → WK 142 [(0, .ref (g.2.2 45)), (3, .int a3), (5, .int x5), (6, .int y8), (7, .int y9), (8, .int y10), (9, .int y12), (10, .int y13), (11, .int x18), (12, .int x20)] [.int y21] s22)) h (fun y21 s22 h => ?_) (fun J142 hJ142 h => ?_)
                ·
                  unfold mX11_way_142 at h
                  refine k_istore (lv' := [(13, .int y21), (0, .ref (g.2.2 45)), (3, .int a3), (5, .int x5), (6, .int y8), (7, .int y9), (8, .int y10), (9, .int y12), (10, .int y13), (11, .int x18), (12, .int x20)]) C (dk dX11_way_2 15 rfl) (by decide) rfl ?_
                  refine k_iload C (dk dX11_way_2 16 rfl) 0 rfl ?_
                  refine kl_J (P := (fun J180 => ∀ (y23 : Int32) (s24 : St), J180 y23 s24 = some (v, σe) → WK 180 [(0, .ref (g.2.2 45)), (3, .int a3), (5, .int x5), (6, .int y8), (7, .int y9), (8, .int y10), (10, .int y13)] [.int y23] s24)) h (fun y23 s24 h => ?_) (fun J180 hJ180 h => ?_)
                  ·
                    unfold mX11_way_180 at h
                    refine k_istore (lv' := [(9, .int y23), (0, .ref (g.2.2 45)), (3, .int a3), (5, .int x5), (6, .int y8), (7, .int y9), (8, .int y10), (10, .int y13)]) C (dk dX11_way_3 2 rfl) (by decide) rfl ?_
                    refine k_iinc (lv' := [(10, .int (y13 + 1)), (9, .int y23), (0, .ref (g.2.2 45)), (3, .int a3), (5, .int x5), (6, .int y8), (7, .int y9), (8, .int y10)]) C (dk dX11_way_3 3 rfl) (j := 7) rfl rfl (by decide) rfl ?_
                    refine k_goto (tgt := 73) C (dk dX11_way_3 4 rfl) (by decide) ?_
                    refine k_sub C [2, 3, 4, 5, 6, 7, 1, 0] rfl ?_
                    exact hJ73 _ _ _ h
                  ·
                    refine kl_J (P := (fun J178 => ∀ (s25 : St), J178 s25 = some (v, σe) → WK 178 [(0, .ref (g.2.2 45)), (3, .int a3), (5, .int x5), (6, .int y8), (7, .int y9), (8, .int y10), (9, .int y12), (10, .int y13)] [] s25)) h (fun s25 h => ?_) (fun J178 hJ178 h => ?_)
                    ·
                      unfold mX11_way_178 at h
                      refine k_iload C (dk dX11_way_3 1 rfl) 6 rfl ?_
                      refine k_sub C [0, 1, 2, 3, 4, 5, 7] rfl ?_
                      exact hJ180 _ _ h
                    ·
                      refine k_if_eq (tgt := 178) C (dk dX11_way_2 17 rfl) (by decide) h (fun h => ?_) (fun h => ?_)
                      ·
                        refine k_sub C [1, 2, 3, 4, 5, 6, 7, 8] rfl ?_
                        exact hJ178 _ h
                      ·
                        refine k_iload C (dk dX11_way_2 18 rfl) 7 rfl ?_
                        refine kl_J (P := (fun J167 => ∀ (s26 : St), J167 s26 = some (v, σe) → WK 167 [(0, .ref (g.2.2 45)), (3, .int a3), (5, .int x5), (6, .int y8), (7, .int y9), (8, .int y10), (10, .int y13), (11, .int x18), (12, .int x20)] [] s26)) h (fun s26 h => ?_) (fun J167 hJ167 h => ?_)
                        ·
                          unfold mX11_way_167 at h
                          refine k_bipush (v := (36 : Int32)) C (dk dX11_way_2 27 rfl) (by decide) ?_
                          refine k_iload C (dk dX11_way_2 28 rfl) 7 rfl ?_
                          refine k_imul C (dk dX11_way_2 29 rfl) ?_
                          refine k_iload C (dk dX11_way_2 30 rfl) 8 rfl ?_
                          refine k_iadd C (dk dX11_way_2 31 rfl) ?_
                          refine k_goto (tgt := 180) C (dk dX11_way_3 0 rfl) (by decide) ?_
                          refine k_sub C [0, 1, 2, 3, 4, 5, 6] rfl ?_
                          exact hJ180 _ _ h
                        ·
                          refine k_if_lt (tgt := 167) C (dk dX11_way_2 19 rfl) (by decide) h (fun h => ?_) (fun h => ?_)
                          ·
                            refine k_sub C [1, 2, 3, 4, 5, 6, 8, 9, 10] rfl ?_
                            exact hJ167 _ h
                          ·
                            refine k_bipush (v := (36 : Int32)) C (dk dX11_way_2 20 rfl) (by decide) ?_
                            refine k_iload C (dk dX11_way_2 21 rfl) 9 rfl ?_
                            refine k_imul C (dk dX11_way_2 22 rfl) ?_
                            refine k_iload C (dk dX11_way_2 23 rfl) 10 rfl ?_
                            refine k_iadd C (dk dX11_way_2 24 rfl) ?_
                            refine k_iload C (dk dX11_way_2 25 rfl) 7 rfl ?_
                            refine k_icmp_ge (tgt := 178) C (dk dX11_way_2 26 rfl) (by decide) h (fun h => ?_) (fun h => ?_)
                            ·
                              refine k_sub C [1, 2, 3, 4, 5, 6, 7, 8] rfl ?_
                              exact hJ178 _ h
                            ·
                              refine k_sub C [1, 2, 3, 4, 5, 6, 8, 9, 10] rfl ?_
                              exact hJ167 _ h
                ·
                  refine kl_J (P := (fun J141 => ∀ (s27 : St), J141 s27 = some (v, σe) → WK 141 [(0, .ref (g.2.2 45)), (3, .int a3), (5, .int x5), (6, .int y8), (7, .int y9), (8, .int y10), (9, .int y12), (10, .int y13), (11, .int x18), (12, .int x20)] [] s27)) h (fun s27 h => ?_) (fun J141 hJ141 h => ?_)
                  ·
                    unfold mX11_way_141 at h
                    refine k_iconst (v := (0 : Int32)) C (dk dX11_way_2 14 rfl) (by decide) ?_
                    exact hJ142 _ _ h
                  ·
                    refine k_if_lt (tgt := 141) C (dk dX11_way_1 27 rfl) (by decide) h (fun h => ?_) (fun h => ?_)
                    ·
                      refine k_sub C [2, 3, 4, 5, 6, 7, 8, 9, 1, 0] rfl ?_
                      exact hJ141 _ h
                    ·
                      refine k_iload C (dk dX11_way_1 28 rfl) 0 rfl ?_
                      refine k_if_lt (tgt := 141) C (dk dX11_way_1 29 rfl) (by decide) h (fun h => ?_) (fun h => ?_)
                      ·
                        refine k_sub C [2, 3, 4, 5, 6, 7, 8, 9, 1, 0] rfl ?_
                        exact hJ141 _ h
                      ·
                        refine k_aload_n C (dk dX11_way_1 30 rfl) rfl 2 rfl ?_
                        refine k_getR (q := 60) (D := RX11) (T := TX11) (N := 39) (ci := 6) (k := 32) C iCX11 rfl (by decide) rfl (by decide) (iW3 _ (List.mem_of_getElem? (i := 14) rfl)) rfl (dk dX11_way_1 31 rfl) ?_
                        refine k_bipush (v := (36 : Int32)) C (dk dX11_way_2 0 rfl) (by decide) ?_
                        refine k_iload C (dk dX11_way_2 1 rfl) 1 rfl ?_
                        refine k_imul C (dk dX11_way_2 2 rfl) ?_
                        refine k_iload C (dk dX11_way_2 3 rfl) 0 rfl ?_
                        refine k_iadd C (dk dX11_way_2 4 rfl) ?_
                        refine k_iald C rfl rfl (dk dX11_way_2 5 rfl) h (fun x28 h => ?_)
                        refine k_iload C (dk dX11_way_2 6 rfl) 4 rfl ?_
                        refine k_iload C (dk dX11_way_2 7 rfl) 7 rfl ?_
                        refine k_isub C (dk dX11_way_2 8 rfl) ?_
                        refine k_iconst (v := (1 : Int32)) C (dk dX11_way_2 9 rfl) (by decide) ?_
                        refine k_isub C (dk dX11_way_2 10 rfl) ?_
                        refine k_icmp_ne (tgt := 141) C (dk dX11_way_2 11 rfl) (by decide) h (fun h => ?_) (fun h => ?_)
                        ·
                          refine k_sub C [2, 3, 4, 5, 6, 7, 8, 9, 1, 0] rfl ?_
                          exact hJ141 _ h
                        ·
                          refine k_iconst (v := (1 : Int32)) C (dk dX11_way_2 12 rfl) (by decide) ?_
                          refine k_goto (tgt := 142) C (dk dX11_way_2 13 rfl) (by decide) ?_
                          refine k_sub C [2, 3, 4, 5, 6, 7, 8, 9, 1, 0] rfl ?_
                          exact hJ142 _ _ h
            ·
              refine k_sub C [2, 3, 4, 5, 6, 7, 1, 0] rfl ?_
              exact hJ73 _ _ _ h
        ·
          refine k_sub C [5, 8, 3, 2, 1, 0] rfl ?_
          exact hJ61 _ _ _ _ h
      ·
        refine k_bipush (v := (-4 : Int32)) C (dk dX11_way_0 24 rfl) (by decide) ?_
        exact k_iret E (dk dX11_way_0 25 rfl) h
    ·
      refine k_iload C (dk dX11_way_0 14 rfl) 0 rfl ?_
      exact k_iret E (dk dX11_way_0 15 rfl) h
  ·
    refine k_if_ge (tgt := 13) C (dk dX11_way_0 4 rfl) (by decide) h (fun h => ?_) (fun h => ?_)
    ·
      refine k_aload_n C (dk dX11_way_0 7 rfl) rfl 0 rfl ?_
      refine k_iload_n C (dk dX11_way_0 8 rfl) rfl 1 rfl ?_
      refine k_iload_n C (dk dX11_way_0 9 rfl) rfl 2 rfl ?_
      refine cl2_k h (fun x30 s29 hc h => ?_)
      refine k_cv (T := TX11) (N := 39) (ci := 6) (ob := 45) (As := [.int a1, .int a2]) (st := []) C (qX11_wrongTwo l g hg hc) (iW21 _ (List.mem_of_getElem? (i := 2) rfl)) (iW21 _ (List.mem_of_getElem? (i := 3) rfl)) (iW21 _ (List.mem_of_getElem? (i := 4) rfl)) (iW0 _ (List.mem_of_getElem? (i := 5) rfl)) (iW21 _ (List.mem_of_getElem? (i := 5) rfl)) rfl rfl hdX11_wrongTwo (by decide) rfl (by decide) rfl rfl rfl (Nat.le_of_ble_eq_true rfl) (dk dX11_way_0 10 rfl) ?_
      exact hJ19 _ _ h
    ·
      refine k_iconst (v := (-1 : Int32)) C (dk dX11_way_0 5 rfl) (by decide) ?_
      refine k_goto (tgt := 19) C (dk dX11_way_0 6 rfl) (by decide) ?_
      exact hJ19 _ _ h
set_option maxRecDepth 100000 in
set_option maxHeartbeats 4000000 in
theorem qX11_hinders (l : Launch) (g : G) (hg : gOK g) {a1 : Int32} {a2 : Int32}  {s0 σe : St} {v : Int32} (h : mX11_hinders a1 a2 s0 = some (v, σe)) : Mc l g yX11_hinders cX11_hinders 7 (some .int) { frames := 6, cells := 0, slots := 0, locals := 137 } [.ref (g.2.2 45), .int a1, .int a2] s0 (some (.int v)) σe := by
  refine k_enter hg pnRX11 rfl (Nat.le_of_ble_eq_true rfl) ?_
  intro WK E
  have C := kX_y E
  unfold mX11_hinders at h
  show WK 0 [(0, .ref (g.2.2 45)), (1, .int a1), (2, .int a2)] [] s0
  refine k_aload_n C (dk dX11_hinders_0 0 rfl) rfl 0 rfl ?_
  refine k_iconst (v := (0 : Int32)) C (dk dX11_hinders_0 1 rfl) (by decide) ?_
  refine k_putI (D := RX11) (T := TX11) (N := 39) (ci := 6) (k := 16) C iCX11 tyX11_ok nmX11 rfl (by decide) rfl (by decide) (iW3 _ (List.mem_of_getElem? (i := 20) rfl)) rfl rfl flq6_16 flp6_16 (dk dX11_hinders_0 2 rfl) h (fun s1 h => ?_)
  refine k_aload_n C (dk dX11_hinders_0 3 rfl) rfl 0 rfl ?_
  refine k_iload_n C (dk dX11_hinders_0 4 rfl) rfl 1 rfl ?_
  refine k_iload_n C (dk dX11_hinders_0 5 rfl) rfl 2 rfl ?_
  refine cl2_k h (fun x3 s2 hc h => ?_)
  refine k_cv (T := TX11) (N := 39) (ci := 6) (ob := 45) (As := [.int a1, .int a2]) (st := []) C (qX11_wrongTwo l g hg hc) (iW21 _ (List.mem_of_getElem? (i := 2) rfl)) (iW21 _ (List.mem_of_getElem? (i := 3) rfl)) (iW21 _ (List.mem_of_getElem? (i := 4) rfl)) (iW0 _ (List.mem_of_getElem? (i := 5) rfl)) (iW21 _ (List.mem_of_getElem? (i := 5) rfl)) rfl rfl hdX11_wrongTwo (by decide) rfl (by decide) rfl rfl rfl (Nat.le_of_ble_eq_true rfl) (dk dX11_hinders_0 6 rfl) ?_
  refine k_if_ge (tgt := 21) C (dk dX11_hinders_0 7 rfl) (by decide) h (fun h => ?_) (fun h => ?_)
  ·
    refine k_aload_n C (dk dX11_hinders_0 13 rfl) rfl 0 rfl ?_
    refine k_iload_n C (dk dX11_hinders_0 14 rfl) rfl 1 rfl ?_
    refine k_iload_n C (dk dX11_hinders_0 15 rfl) rfl 2 rfl ?_
    refine cl2_k h (fun x5 s4 hc h => ?_)
    refine k_cv (T := TX11) (N := 39) (ci := 6) (ob := 45) (As := [.int a1, .int a2]) (st := []) C (qX11_seeDays l g hg hc) (iW21 _ (List.mem_of_getElem? (i := 10) rfl)) (iW21 _ (List.mem_of_getElem? (i := 11) rfl)) (iW21 _ (List.mem_of_getElem? (i := 12) rfl)) (iW0 _ (List.mem_of_getElem? (i := 5) rfl)) (iW21 _ (List.mem_of_getElem? (i := 13) rfl)) rfl rfl hdX11_seeDays (by decide) rfl (by decide) rfl rfl rfl (Nat.le_of_ble_eq_true rfl) (dk dX11_hinders_0 16 rfl) ?_
    refine k_if_lt (tgt := 33) C (dk dX11_hinders_0 17 rfl) (by decide) h (fun h => ?_) (fun h => ?_)
    ·
      refine k_bipush (v := (-4 : Int32)) C (dk dX11_hinders_0 20 rfl) (by decide) ?_
      refine k_istore_n (lv' := [(3, .int (-4 : Int32)), (0, .ref (g.2.2 45)), (1, .int a1), (2, .int a2)]) C (dk dX11_hinders_0 21 rfl) rfl (by decide) rfl ?_
      refine k_sipush (v := (9999 : Int32)) C (dk dX11_hinders_0 22 rfl) (by decide) ?_
      refine k_istore (lv' := [(4, .int (9999 : Int32)), (3, .int (-4 : Int32)), (0, .ref (g.2.2 45)), (1, .int a1), (2, .int a2)]) C (dk dX11_hinders_0 23 rfl) (by decide) rfl ?_
      refine k_iconst (v := (0 : Int32)) C (dk dX11_hinders_0 24 rfl) (by decide) ?_
      refine k_istore (lv' := [(5, .int (0 : Int32)), (4, .int (9999 : Int32)), (3, .int (-4 : Int32)), (0, .ref (g.2.2 45)), (1, .int a1), (2, .int a2)]) C (dk dX11_hinders_0 25 rfl) (by decide) rfl ?_
      refine kl_L (P := (fun J44 => ∀ (y6 : Int32) (y7 : Int32) (y8 : Int32) (s9 : St), J44 y6 y7 y8 s9 = some (v, σe) → WK 44 [(0, .ref (g.2.2 45)), (1, .int a1), (2, .int a2), (3, .int y6), (4, .int y7), (5, .int y8)] [] s9)) h (fun _ _ _ _ h => nomatch h) (fun J44 hJ44 y6 y7 y8 s9 h => ?_) (fun J44 hJ44 h => ?_)
      ·
        unfold mX11_hinders_44 at h
        refine k_iload C (dk dX11_hinders_0 26 rfl) 5 rfl ?_
        refine k_bipush (v := (36 : Int32)) C (dk dX11_hinders_0 27 rfl) (by decide) ?_
        refine k_icmp_ge (tgt := 126) C (dk dX11_hinders_0 28 rfl) (by decide) h (fun h => ?_) (fun h => ?_)
        ·
          refine k_iload_n C (dk dX11_hinders_2 0 rfl) rfl 3 rfl ?_
          exact k_iret E (dk dX11_hinders_2 1 rfl) h
        ·
          refine k_aload_n C (dk dX11_hinders_0 29 rfl) rfl 0 rfl ?_
          refine k_iload C (dk dX11_hinders_0 30 rfl) 5 rfl ?_
          refine cl2_k h (fun x11 s10 hc h => ?_)
          refine k_cv (T := TX11) (N := 39) (ci := 6) (ob := 45) (As := [.int y8]) (st := []) C (qX11_isOpen l g hg hc) (iW10 _ (List.mem_of_getElem? (i := 6) rfl)) (iW10 _ (List.mem_of_getElem? (i := 7) rfl)) (iW10 _ (List.mem_of_getElem? (i := 8) rfl)) (iW0 _ (List.mem_of_getElem? (i := 5) rfl)) (iW10 _ (List.mem_of_getElem? (i := 9) rfl)) rfl rfl hdX11_isOpen (by decide) rfl (by decide) rfl rfl rfl (Nat.le_of_ble_eq_true rfl) (dk dX11_hinders_0 31 rfl) ?_
          refine kl_J (P := (fun J120 => ∀ (y12 : Int32) (y13 : Int32) (y14 : Int32) (s15 : St), J120 y12 y13 y14 s15 = some (v, σe) → WK 120 [(0, .ref (g.2.2 45)), (1, .int a1), (2, .int a2), (3, .int y12), (4, .int y13), (5, .int y14)] [] s15)) h (fun y12 y13 y14 s15 h => ?_) (fun J120 hJ120 h => ?_)
          ·
            unfold mX11_hinders_120 at h
            refine k_iinc (lv' := [(5, .int (y14 + 1)), (0, .ref (g.2.2 45)), (1, .int a1), (2, .int a2), (3, .int y12), (4, .int y13)]) C (dk dX11_hinders_1 30 rfl) (j := 5) rfl rfl (by decide) rfl ?_
            refine k_goto (tgt := 44) C (dk dX11_hinders_1 31 rfl) (by decide) ?_
            refine k_sub C [1, 2, 3, 4, 5, 0] rfl ?_
            exact hJ44 _ _ _ _ h
          ·
            refine k_if_ne (tgt := 120) C (dk dX11_hinders_1 0 rfl) (by decide) h (fun h => ?_) (fun h => ?_)
            ·
              exact hJ120 _ _ _ _ h
            ·
              refine k_aload_n C (dk dX11_hinders_1 1 rfl) rfl 0 rfl ?_
              refine k_iload C (dk dX11_hinders_1 2 rfl) 5 rfl ?_
              refine k_putI (D := RX11) (T := TX11) (N := 39) (ci := 6) (k := 17) C iCX11 tyX11_ok nmX11 rfl (by decide) rfl (by decide) (iW3 _ (List.mem_of_getElem? (i := 7) rfl)) rfl rfl flq6_17 flp6_17 (dk dX11_hinders_1 3 rfl) h (fun s16 h => ?_)
              refine k_aload_n C (dk dX11_hinders_1 4 rfl) rfl 0 rfl ?_
              refine k_iload_n C (dk dX11_hinders_1 5 rfl) rfl 1 rfl ?_
              refine k_iload_n C (dk dX11_hinders_1 6 rfl) rfl 2 rfl ?_
              refine cl2_k h (fun x18 s17 hc h => ?_)
              refine k_cv (T := TX11) (N := 39) (ci := 6) (ob := 45) (As := [.int a1, .int a2]) (st := []) C (qX11_seeDays l g hg hc) (iW21 _ (List.mem_of_getElem? (i := 10) rfl)) (iW21 _ (List.mem_of_getElem? (i := 11) rfl)) (iW21 _ (List.mem_of_getElem? (i := 12) rfl)) (iW0 _ (List.mem_of_getElem? (i := 5) rfl)) (iW21 _ (List.mem_of_getElem? (i := 13) rfl)) rfl rfl hdX11_seeDays (by decide) rfl (by decide) rfl rfl rfl (Nat.le_of_ble_eq_true rfl) (dk dX11_hinders_1 7 rfl) ?_
              refine k_istore (lv' := [(6, .int x18), (0, .ref (g.2.2 45)), (1, .int a1), (2, .int a2), (3, .int y6), (4, .int y7), (5, .int y8)]) C (dk dX11_hinders_1 8 rfl) (by decide) rfl ?_
              refine k_aload_n C (dk dX11_hinders_1 9 rfl) rfl 1 rfl ?_
              refine k_bipush (v := (-4 : Int32)) C (dk dX11_hinders_1 10 rfl) (by decide) ?_
              refine k_putI (D := RX11) (T := TX11) (N := 39) (ci := 6) (k := 17) C iCX11 tyX11_ok nmX11 rfl (by decide) rfl (by decide) (iW3 _ (List.mem_of_getElem? (i := 7) rfl)) rfl rfl flq6_17 flp6_17 (dk dX11_hinders_1 11 rfl) h (fun s19 h => ?_)
              refine k_iload C (dk dX11_hinders_1 12 rfl) 0 rfl ?_
              refine kl_J (P := (fun J98 => ∀ (y20 : Int32) (s21 : St), J98 y20 s21 = some (v, σe) → WK 98 [(0, .ref (g.2.2 45)), (1, .int a1), (2, .int a2), (4, .int y7), (5, .int y8), (6, .int x18)] [.int y20] s21)) h (fun y20 s21 h => ?_) (fun J98 hJ98 h => ?_)
              ·
                unfold mX11_hinders_98 at h
                refine k_istore_n (lv' := [(3, .int y20), (0, .ref (g.2.2 45)), (1, .int a1), (2, .int a2), (4, .int y7), (5, .int y8), (6, .int x18)]) C (dk dX11_hinders_1 20 rfl) rfl (by decide) rfl ?_
                refine k_iload C (dk dX11_hinders_1 21 rfl) 6 rfl ?_
                refine kl_J (P := (fun J118 => ∀ (y22 : Int32) (s23 : St), J118 y22 s23 = some (v, σe) → WK 118 [(0, .ref (g.2.2 45)), (1, .int a1), (2, .int a2), (3, .int y20), (5, .int y8)] [.int y22] s23)) h (fun y22 s23 h => ?_) (fun J118 hJ118 h => ?_)
                ·
                  unfold mX11_hinders_118 at h
                  refine k_istore (lv' := [(4, .int y22), (0, .ref (g.2.2 45)), (1, .int a1), (2, .int a2), (3, .int y20), (5, .int y8)]) C (dk dX11_hinders_1 29 rfl) (by decide) rfl ?_
                  refine k_sub C [1, 2, 3, 4, 0, 5] rfl ?_
                  exact hJ120 _ _ _ _ h
                ·
                  refine kl_J (P := (fun J116 => ∀ (s24 : St), J116 s24 = some (v, σe) → WK 116 [(0, .ref (g.2.2 45)), (1, .int a1), (2, .int a2), (3, .int y20), (4, .int y7), (5, .int y8)] [] s24)) h (fun s24 h => ?_) (fun J116 hJ116 h => ?_)
                  ·
                    unfold mX11_hinders_116 at h
                    refine k_iload C (dk dX11_hinders_1 28 rfl) 4 rfl ?_
                    refine k_sub C [0, 1, 2, 3, 5] rfl ?_
                    exact hJ118 _ _ h
                  ·
                    refine k_if_lt (tgt := 116) C (dk dX11_hinders_1 22 rfl) (by decide) h (fun h => ?_) (fun h => ?_)
                    ·
                      refine k_sub C [1, 2, 3, 0, 4, 5] rfl ?_
                      exact hJ116 _ h
                    ·
                      refine k_iload C (dk dX11_hinders_1 23 rfl) 6 rfl ?_
                      refine k_iload C (dk dX11_hinders_1 24 rfl) 4 rfl ?_
                      refine k_icmp_ge (tgt := 116) C (dk dX11_hinders_1 25 rfl) (by decide) h (fun h => ?_) (fun h => ?_)
                      ·
                        refine k_sub C [1, 2, 3, 0, 4, 5] rfl ?_
                        exact hJ116 _ h
                      ·
                        refine k_iload C (dk dX11_hinders_1 26 rfl) 6 rfl ?_
                        refine k_goto (tgt := 118) C (dk dX11_hinders_1 27 rfl) (by decide) ?_
                        refine k_sub C [1, 2, 3, 0, 5] rfl ?_
                        exact hJ118 _ _ h
              ·
                refine kl_J (P := (fun J97 => ∀ (s25 : St), J97 s25 = some (v, σe) → WK 97 [(0, .ref (g.2.2 45)), (1, .int a1), (2, .int a2), (3, .int y6), (4, .int y7), (5, .int y8), (6, .int x18)] [] s25)) h (fun s25 h => ?_) (fun J97 hJ97 h => ?_)
                ·
                  unfold mX11_hinders_97 at h
                  refine k_iload_n C (dk dX11_hinders_1 19 rfl) rfl 3 rfl ?_
                  refine k_sub C [0, 1, 2, 4, 5, 6] rfl ?_
                  exact hJ98 _ _ h
                ·
                  refine k_if_lt (tgt := 97) C (dk dX11_hinders_1 13 rfl) (by decide) h (fun h => ?_) (fun h => ?_)
                  ·
                    refine k_sub C [1, 2, 3, 4, 5, 6, 0] rfl ?_
                    exact hJ97 _ h
                  ·
                    refine k_iload C (dk dX11_hinders_1 14 rfl) 0 rfl ?_
                    refine k_iload C (dk dX11_hinders_1 15 rfl) 5 rfl ?_
                    refine k_icmp_ge (tgt := 97) C (dk dX11_hinders_1 16 rfl) (by decide) h (fun h => ?_) (fun h => ?_)
                    ·
                      refine k_sub C [1, 2, 3, 4, 5, 6, 0] rfl ?_
                      exact hJ97 _ h
                    ·
                      refine k_iload C (dk dX11_hinders_1 17 rfl) 6 rfl ?_
                      refine k_goto (tgt := 98) C (dk dX11_hinders_1 18 rfl) (by decide) ?_
                      refine k_sub C [1, 2, 3, 5, 6, 0] rfl ?_
                      exact hJ98 _ _ h
      ·
        refine k_sub C [3, 4, 5, 2, 1, 0] rfl ?_
        exact hJ44 _ _ _ _ h
    ·
      refine k_bipush (v := (-4 : Int32)) C (dk dX11_hinders_0 18 rfl) (by decide) ?_
      exact k_iret E (dk dX11_hinders_0 19 rfl) h
  ·
    refine k_aload_n C (dk dX11_hinders_0 8 rfl) rfl 0 rfl ?_
    refine k_iload_n C (dk dX11_hinders_0 9 rfl) rfl 1 rfl ?_
    refine k_iload_n C (dk dX11_hinders_0 10 rfl) rfl 2 rfl ?_
    refine cl2_k h (fun x27 s26 hc h => ?_)
    refine k_cv (T := TX11) (N := 39) (ci := 6) (ob := 45) (As := [.int a1, .int a2]) (st := []) C (qX11_wrongTwo l g hg hc) (iW21 _ (List.mem_of_getElem? (i := 2) rfl)) (iW21 _ (List.mem_of_getElem? (i := 3) rfl)) (iW21 _ (List.mem_of_getElem? (i := 4) rfl)) (iW0 _ (List.mem_of_getElem? (i := 5) rfl)) (iW21 _ (List.mem_of_getElem? (i := 5) rfl)) rfl rfl hdX11_wrongTwo (by decide) rfl (by decide) rfl rfl rfl (Nat.le_of_ble_eq_true rfl) (dk dX11_hinders_0 11 rfl) ?_
    exact k_iret E (dk dX11_hinders_0 12 rfl) h
set_option maxRecDepth 100000 in
set_option maxHeartbeats 4000000 in
theorem qX11_needs (l : Launch) (g : G) (hg : gOK g) {a1 : Int32} {a2 : Int32}  {s0 σe : St} {v : Int32} (h : mX11_needs a1 a2 s0 = some (v, σe)) : Mc l g yX11_needs cX11_needs 5 (some .int) { frames := 6, cells := 0, slots := 0, locals := 137 } [.ref (g.2.2 45), .int a1, .int a2] s0 (some (.int v)) σe := by
  refine k_enter hg pnRX11 rfl (Nat.le_of_ble_eq_true rfl) ?_
  intro WK E
  have C := kX_y E
  unfold mX11_needs at h
  show WK 0 [(0, .ref (g.2.2 45)), (1, .int a1), (2, .int a2)] [] s0
  refine k_aload_n C (dk dX11_needs_0 0 rfl) rfl 0 rfl ?_
  refine k_iconst (v := (0 : Int32)) C (dk dX11_needs_0 1 rfl) (by decide) ?_
  refine k_putI (D := RX11) (T := TX11) (N := 39) (ci := 6) (k := 16) C iCX11 tyX11_ok nmX11 rfl (by decide) rfl (by decide) (iW3 _ (List.mem_of_getElem? (i := 20) rfl)) rfl rfl flq6_16 flp6_16 (dk dX11_needs_0 2 rfl) h (fun s1 h => ?_)
  refine k_aload_n C (dk dX11_needs_0 3 rfl) rfl 0 rfl ?_
  refine k_iload_n C (dk dX11_needs_0 4 rfl) rfl 1 rfl ?_
  refine k_iload_n C (dk dX11_needs_0 5 rfl) rfl 2 rfl ?_
  refine cl2_k h (fun x3 s2 hc h => ?_)
  refine k_cv (T := TX11) (N := 39) (ci := 6) (ob := 45) (As := [.int a1, .int a2]) (st := []) C (qX11_wrongTwo l g hg hc) (iW21 _ (List.mem_of_getElem? (i := 2) rfl)) (iW21 _ (List.mem_of_getElem? (i := 3) rfl)) (iW21 _ (List.mem_of_getElem? (i := 4) rfl)) (iW0 _ (List.mem_of_getElem? (i := 5) rfl)) (iW21 _ (List.mem_of_getElem? (i := 5) rfl)) rfl rfl hdX11_wrongTwo (by decide) rfl (by decide) rfl rfl rfl (Nat.le_of_ble_eq_true rfl) (dk dX11_needs_0 6 rfl) ?_
  refine k_if_ge (tgt := 21) C (dk dX11_needs_0 7 rfl) (by decide) h (fun h => ?_) (fun h => ?_)
  ·
    refine k_aload_n C (dk dX11_needs_0 13 rfl) rfl 0 rfl ?_
    refine k_getI (D := RX11) (T := TX11) (N := 39) (ci := 6) (k := 4) C iCX11 rfl (by decide) rfl (by decide) (iW2 _ (List.mem_of_getElem? (i := 28) rfl)) rfl (dk dX11_needs_0 14 rfl) h (fun x4 h => ?_)
    refine k_istore_n (lv' := [(3, .int x4), (0, .ref (g.2.2 45)), (1, .int a1), (2, .int a2)]) C (dk dX11_needs_0 15 rfl) rfl (by decide) rfl ?_
    refine k_bipush (v := (-4 : Int32)) C (dk dX11_needs_0 16 rfl) (by decide) ?_
    refine k_istore (lv' := [(4, .int (-4 : Int32)), (3, .int x4), (0, .ref (g.2.2 45)), (1, .int a1), (2, .int a2)]) C (dk dX11_needs_0 17 rfl) (by decide) rfl ?_
    refine k_aload_n C (dk dX11_needs_0 18 rfl) rfl 2 rfl ?_
    refine k_iconst (v := (0 : Int32)) C (dk dX11_needs_0 19 rfl) (by decide) ?_
    refine k_putI (D := RX11) (T := TX11) (N := 39) (ci := 6) (k := 4) C iCX11 tyX11_ok nmX11 rfl (by decide) rfl (by decide) (iW2 _ (List.mem_of_getElem? (i := 28) rfl)) rfl rfl flq6_4 flp6_4 (dk dX11_needs_0 20 rfl) h (fun s5 h => ?_)
    refine kl_L (P := (fun J35 => ∀ (y6 : Int32) (s7 : St), J35 y6 s7 = some (v, σe) → WK 35 [(0, .ref (g.2.2 45)), (1, .int a1), (2, .int a2), (3, .int x4), (4, .int y6)] [] s7)) h (fun _ _ h => nomatch h) (fun J35 hJ35 y6 s7 h => ?_) (fun J35 hJ35 h => ?_)
    ·
      unfold mX11_needs_35 at h
      refine k_aload_n C (dk dX11_needs_0 21 rfl) rfl 0 rfl ?_
      refine k_getI (D := RX11) (T := TX11) (N := 39) (ci := 6) (k := 4) C iCX11 rfl (by decide) rfl (by decide) (iW2 _ (List.mem_of_getElem? (i := 28) rfl)) rfl (dk dX11_needs_0 22 rfl) h (fun x8 h => ?_)
      refine k_bipush (v := (20 : Int32)) C (dk dX11_needs_0 23 rfl) (by decide) ?_
      refine kl_J (P := (fun J82 => ∀ (s9 : St), J82 s9 = some (v, σe) → WK 82 [(0, .ref (g.2.2 45)), (3, .int x4), (4, .int y6)] [] s9)) h (fun s9 h => ?_) (fun J82 hJ82 h => ?_)
      ·
        unfold mX11_needs_82 at h
        refine k_aload_n C (dk dX11_needs_1 12 rfl) rfl 0 rfl ?_
        refine k_iload_n C (dk dX11_needs_1 13 rfl) rfl 1 rfl ?_
        refine k_putI (D := RX11) (T := TX11) (N := 39) (ci := 6) (k := 4) C iCX11 tyX11_ok nmX11 rfl (by decide) rfl (by decide) (iW2 _ (List.mem_of_getElem? (i := 28) rfl)) rfl rfl flq6_4 flp6_4 (dk dX11_needs_1 14 rfl) h (fun s10 h => ?_)
        refine k_iload C (dk dX11_needs_1 15 rfl) 2 rfl ?_
        exact k_iret E (dk dX11_needs_1 16 rfl) h
      ·
        refine k_icmp_gt (tgt := 82) C (dk dX11_needs_0 24 rfl) (by decide) h (fun h => ?_) (fun h => ?_)
        ·
          refine k_sub C [0, 3, 4] rfl ?_
          exact hJ82 _ h
        ·
          refine k_iload C (dk dX11_needs_0 25 rfl) 4 rfl ?_
          refine k_if_ge (tgt := 82) C (dk dX11_needs_0 26 rfl) (by decide) h (fun h => ?_) (fun h => ?_)
          ·
            refine k_sub C [0, 3, 4] rfl ?_
            exact hJ82 _ h
          ·
            refine k_aload_n C (dk dX11_needs_0 27 rfl) rfl 0 rfl ?_
            refine k_iload_n C (dk dX11_needs_0 28 rfl) rfl 1 rfl ?_
            refine k_iload_n C (dk dX11_needs_0 29 rfl) rfl 2 rfl ?_
            refine cl2_k h (fun x12 s11 hc h => ?_)
            refine k_cv (T := TX11) (N := 39) (ci := 6) (ob := 45) (As := [.int a1, .int a2]) (st := []) C (qX11_seeDays l g hg hc) (iW21 _ (List.mem_of_getElem? (i := 10) rfl)) (iW21 _ (List.mem_of_getElem? (i := 11) rfl)) (iW21 _ (List.mem_of_getElem? (i := 12) rfl)) (iW0 _ (List.mem_of_getElem? (i := 5) rfl)) (iW21 _ (List.mem_of_getElem? (i := 13) rfl)) rfl rfl hdX11_seeDays (by decide) rfl (by decide) rfl rfl rfl (Nat.le_of_ble_eq_true rfl) (dk dX11_needs_0 30 rfl) ?_
            refine kl_J (P := (fun J67 => ∀ (y13 : Int32) (s14 : St), J67 y13 s14 = some (v, σe) → WK 67 [(0, .ref (g.2.2 45)), (1, .int a1), (2, .int a2), (3, .int x4)] [.int y13] s14)) h (fun y13 s14 h => ?_) (fun J67 hJ67 h => ?_)
            ·
              unfold mX11_needs_67 at h
              refine k_istore (lv' := [(4, .int y13), (0, .ref (g.2.2 45)), (1, .int a1), (2, .int a2), (3, .int x4)]) C (dk dX11_needs_1 4 rfl) (by decide) rfl ?_
              refine k_aload_n C (dk dX11_needs_1 5 rfl) rfl 1 rfl ?_
              refine k_dup C (dk dX11_needs_1 6 rfl) rfl ?_
              refine k_getI (D := RX11) (T := TX11) (N := 39) (ci := 6) (k := 4) C iCX11 rfl (by decide) rfl (by decide) (iW2 _ (List.mem_of_getElem? (i := 28) rfl)) rfl (dk dX11_needs_1 7 rfl) h (fun x15 h => ?_)
              refine k_iconst (v := (1 : Int32)) C (dk dX11_needs_1 8 rfl) (by decide) ?_
              refine k_iadd C (dk dX11_needs_1 9 rfl) ?_
              refine k_putI (D := RX11) (T := TX11) (N := 39) (ci := 6) (k := 4) C iCX11 tyX11_ok nmX11 rfl (by decide) rfl (by decide) (iW2 _ (List.mem_of_getElem? (i := 28) rfl)) rfl rfl flq6_4 flp6_4 (dk dX11_needs_1 10 rfl) h (fun s16 h => ?_)
              refine k_goto (tgt := 35) C (dk dX11_needs_1 11 rfl) (by decide) ?_
              refine k_sub C [1, 2, 3, 4, 0] rfl ?_
              exact hJ35 _ _ h
            ·
              refine k_if_lt (tgt := 65) C (dk dX11_needs_0 31 rfl) (by decide) h (fun h => ?_) (fun h => ?_)
              ·
                refine k_bipush (v := (-4 : Int32)) C (dk dX11_needs_1 3 rfl) (by decide) ?_
                refine k_sub C [0, 1, 2, 3] rfl ?_
                exact hJ67 _ _ h
              ·
                refine k_aload_n C (dk dX11_needs_1 0 rfl) rfl 0 rfl ?_
                refine k_getI (D := RX11) (T := TX11) (N := 39) (ci := 6) (k := 4) C iCX11 rfl (by decide) rfl (by decide) (iW2 _ (List.mem_of_getElem? (i := 28) rfl)) rfl (dk dX11_needs_1 1 rfl) h (fun x17 h => ?_)
                refine k_goto (tgt := 67) C (dk dX11_needs_1 2 rfl) (by decide) ?_
                refine k_sub C [0, 1, 2, 3] rfl ?_
                exact hJ67 _ _ h
    ·
      refine k_sub C [2, 3, 4, 1, 0] rfl ?_
      exact hJ35 _ _ h
  ·
    refine k_aload_n C (dk dX11_needs_0 8 rfl) rfl 0 rfl ?_
    refine k_iload_n C (dk dX11_needs_0 9 rfl) rfl 1 rfl ?_
    refine k_iload_n C (dk dX11_needs_0 10 rfl) rfl 2 rfl ?_
    refine cl2_k h (fun x19 s18 hc h => ?_)
    refine k_cv (T := TX11) (N := 39) (ci := 6) (ob := 45) (As := [.int a1, .int a2]) (st := []) C (qX11_wrongTwo l g hg hc) (iW21 _ (List.mem_of_getElem? (i := 2) rfl)) (iW21 _ (List.mem_of_getElem? (i := 3) rfl)) (iW21 _ (List.mem_of_getElem? (i := 4) rfl)) (iW0 _ (List.mem_of_getElem? (i := 5) rfl)) (iW21 _ (List.mem_of_getElem? (i := 5) rfl)) rfl rfl hdX11_wrongTwo (by decide) rfl (by decide) rfl rfl rfl (Nat.le_of_ble_eq_true rfl) (dk dX11_needs_0 11 rfl) ?_
    exact k_iret E (dk dX11_needs_0 12 rfl) h
set_option maxRecDepth 100000 in
set_option maxHeartbeats 4000000 in
theorem qX11_within (l : Launch) (g : G) (hg : gOK g) {a1 : Int32}  {s0 σe : St} {v : Int32} (h : mX11_within a1 s0 = some (v, σe)) : Mc l g yX11_within cX11_within 4 (some .int) { frames := 5, cells := 0, slots := 0, locals := 114 } [.ref (g.2.2 45), .int a1] s0 (some (.int v)) σe := by
  refine k_enter hg pnRX11 rfl (Nat.le_of_ble_eq_true rfl) ?_
  intro WK E
  have C := kX_y E
  unfold mX11_within at h
  show WK 0 [(0, .ref (g.2.2 45)), (1, .int a1)] [] s0
  refine k_aload_n C (dk dX11_within_0 0 rfl) rfl 0 rfl ?_
  refine k_iconst (v := (0 : Int32)) C (dk dX11_within_0 1 rfl) (by decide) ?_
  refine k_putI (D := RX11) (T := TX11) (N := 39) (ci := 6) (k := 16) C iCX11 tyX11_ok nmX11 rfl (by decide) rfl (by decide) (iW3 _ (List.mem_of_getElem? (i := 20) rfl)) rfl rfl flq6_16 flp6_16 (dk dX11_within_0 2 rfl) h (fun s1 h => ?_)
  refine k_iload_n C (dk dX11_within_0 3 rfl) rfl 1 rfl ?_
  refine k_i2l C (dk dX11_within_0 4 rfl) ?_
  refine k_lconst (v := (0 : Int64)) C (dk dX11_within_0 5 rfl) (by decide) ?_
  refine k_ldc2 (v := (40 : Int64)) C (dk dX11_within_0 6 rfl) (iW23 _ (List.mem_of_getElem? (i := 9) rfl)) ?_
  refine cl2_k h (fun x3 s2 hc h => ?_)
  refine k_cs (As := [.long a1.toInt64, .long (0 : Int64), .long (40 : Int64)]) (st := []) C (qX11_in l g hg hc) (iW8 _ (List.mem_of_getElem? (i := 16) rfl)) (iW8 _ (List.mem_of_getElem? (i := 17) rfl)) (iW0 _ (List.mem_of_getElem? (i := 5) rfl)) (iW8 _ (List.mem_of_getElem? (i := 18) rfl)) rfl rfl hdX11_in (by decide) rfl rfl (Nat.le_of_ble_eq_true rfl) (dk dX11_within_0 7 rfl) ?_
  refine k_if_ne (tgt := 19) C (dk dX11_within_0 8 rfl) (by decide) h (fun h => ?_) (fun h => ?_)
  ·
    refine k_aload_n C (dk dX11_within_0 11 rfl) rfl 0 rfl ?_
    refine cl2_k h (fun x5 s4 hc h => ?_)
    refine k_cv (T := TX11) (N := 39) (ci := 6) (ob := 45) (As := []) (st := []) C (qX11_areBoth l g hg hc) (iW21 _ (List.mem_of_getElem? (i := 6) rfl)) (iW21 _ (List.mem_of_getElem? (i := 7) rfl)) (iW21 _ (List.mem_of_getElem? (i := 8) rfl)) (iW0 _ (List.mem_of_getElem? (i := 5) rfl)) (iW21 _ (List.mem_of_getElem? (i := 9) rfl)) rfl rfl hdX11_areBoth (by decide) rfl (by decide) rfl rfl rfl (Nat.le_of_ble_eq_true rfl) (dk dX11_within_0 12 rfl) ?_
    refine k_if_ne (tgt := 29) C (dk dX11_within_0 13 rfl) (by decide) h (fun h => ?_) (fun h => ?_)
    ·
      refine k_aload_n C (dk dX11_within_0 16 rfl) rfl 0 rfl ?_
      refine k_aload_n C (dk dX11_within_0 17 rfl) rfl 0 rfl ?_
      refine k_getI (D := RX11) (T := TX11) (N := 39) (ci := 6) (k := 5) C iCX11 rfl (by decide) rfl (by decide) (iW2 _ (List.mem_of_getElem? (i := 29) rfl)) rfl (dk dX11_within_0 18 rfl) h (fun x6 h => ?_)
      refine k_aload_n C (dk dX11_within_0 19 rfl) rfl 0 rfl ?_
      refine k_getI (D := RX11) (T := TX11) (N := 39) (ci := 6) (k := 6) C iCX11 rfl (by decide) rfl (by decide) (iW3 _ (List.mem_of_getElem? (i := 0) rfl)) rfl (dk dX11_within_0 20 rfl) h (fun x7 h => ?_)
      refine cl1_k h (fun s8 hc h => ?_)
      refine k_cv (T := TX11) (N := 39) (ci := 6) (ob := 45) (As := [.int x6, .int x7]) (st := []) C (qX11_layDaysFrom l g hg hc) (iW21 _ (List.mem_of_getElem? (i := 14) rfl)) (iW21 _ (List.mem_of_getElem? (i := 15) rfl)) (iW21 _ (List.mem_of_getElem? (i := 16) rfl)) (iW0 _ (List.mem_of_getElem? (i := 5) rfl)) (iW21 _ (List.mem_of_getElem? (i := 17) rfl)) rfl rfl hdX11_layDaysFrom (by decide) rfl (by decide) rfl rfl rfl (Nat.le_of_ble_eq_true rfl) (dk dX11_within_0 21 rfl) ?_
      refine k_iconst (v := (0 : Int32)) C (dk dX11_within_0 22 rfl) (by decide) ?_
      refine k_istore_n (lv' := [(2, .int (0 : Int32)), (0, .ref (g.2.2 45)), (1, .int a1)]) C (dk dX11_within_0 23 rfl) rfl (by decide) rfl ?_
      refine k_iconst (v := (0 : Int32)) C (dk dX11_within_0 24 rfl) (by decide) ?_
      refine k_istore_n (lv' := [(3, .int (0 : Int32)), (2, .int (0 : Int32)), (0, .ref (g.2.2 45)), (1, .int a1)]) C (dk dX11_within_0 25 rfl) rfl (by decide) rfl ?_
      refine kl_L (P := (fun J45 => ∀ (y9 : Int32) (y10 : Int32) (s11 : St), J45 y9 y10 s11 = some (v, σe) → WK 45 [(0, .ref (g.2.2 45)), (1, .int a1), (2, .int y9), (3, .int y10)] [] s11)) h (fun _ _ _ h => nomatch h) (fun J45 hJ45 y9 y10 s11 h => ?_) (fun J45 hJ45 h => ?_)
      ·
        unfold mX11_within_45 at h
        refine k_iload_n C (dk dX11_within_0 26 rfl) rfl 3 rfl ?_
        refine k_sipush (v := (1296 : Int32)) C (dk dX11_within_0 27 rfl) (by decide) ?_
        refine k_icmp_ge (tgt := 76) C (dk dX11_within_0 28 rfl) (by decide) h (fun h => ?_) (fun h => ?_)
        ·
          refine k_iload_n C (dk dX11_within_1 11 rfl) rfl 2 rfl ?_
          exact k_iret E (dk dX11_within_1 12 rfl) h
        ·
          refine k_iload_n C (dk dX11_within_0 29 rfl) rfl 2 rfl ?_
          refine k_aload_n C (dk dX11_within_0 30 rfl) rfl 0 rfl ?_
          refine k_getR (q := 60) (D := RX11) (T := TX11) (N := 39) (ci := 6) (k := 32) C iCX11 rfl (by decide) rfl (by decide) (iW3 _ (List.mem_of_getElem? (i := 14) rfl)) rfl (dk dX11_within_0 31 rfl) ?_
          refine k_iload_n C (dk dX11_within_1 0 rfl) rfl 3 rfl ?_
          refine k_iald C rfl rfl (dk dX11_within_1 1 rfl) h (fun x12 h => ?_)
          refine k_iload_n C (dk dX11_within_1 2 rfl) rfl 1 rfl ?_
          refine kl_J (P := (fun J68 => ∀ (y13 : Int32) (s14 : St), J68 y13 s14 = some (v, σe) → WK 68 [(0, .ref (g.2.2 45)), (1, .int a1), (3, .int y10)] [.int y13, .int y9] s14)) h (fun y13 s14 h => ?_) (fun J68 hJ68 h => ?_)
          ·
            unfold mX11_within_68 at h
            refine k_iadd C (dk dX11_within_1 7 rfl) ?_
            refine nmI h (fun x15 h => ?_)
            refine k_istore_n (lv' := [(2, .int x15), (0, .ref (g.2.2 45)), (1, .int a1), (3, .int y10)]) C (dk dX11_within_1 8 rfl) rfl (by decide) rfl ?_
            refine k_iinc (lv' := [(3, .int (y10 + 1)), (2, .int x15), (0, .ref (g.2.2 45)), (1, .int a1)]) C (dk dX11_within_1 9 rfl) (j := 3) rfl rfl (by decide) rfl ?_
            refine k_goto (tgt := 45) C (dk dX11_within_1 10 rfl) (by decide) ?_
            refine k_sub C [2, 3, 1, 0] rfl ?_
            exact hJ45 _ _ _ h
          ·
            refine k_icmp_gt (tgt := 67) C (dk dX11_within_1 3 rfl) (by decide) h (fun h => ?_) (fun h => ?_)
            ·
              refine k_iconst (v := (0 : Int32)) C (dk dX11_within_1 6 rfl) (by decide) ?_
              refine k_sub C [0, 1, 3] rfl ?_
              exact hJ68 _ _ h
            ·
              refine k_iconst (v := (1 : Int32)) C (dk dX11_within_1 4 rfl) (by decide) ?_
              refine k_goto (tgt := 68) C (dk dX11_within_1 5 rfl) (by decide) ?_
              refine k_sub C [0, 1, 3] rfl ?_
              exact hJ68 _ _ h
      ·
        refine k_sub C [2, 3, 1, 0] rfl ?_
        exact hJ45 _ _ _ h
    ·
      refine k_bipush (v := (-3 : Int32)) C (dk dX11_within_0 14 rfl) (by decide) ?_
      exact k_iret E (dk dX11_within_0 15 rfl) h
  ·
    refine k_iconst (v := (-1 : Int32)) C (dk dX11_within_0 9 rfl) (by decide) ?_
    exact k_iret E (dk dX11_within_0 10 rfl) h
set_option maxRecDepth 100000 in
set_option maxHeartbeats 4000000 in
theorem qX11_layWays (l : Launch) (g : G) (hg : gOK g) {a1 : Int32}  {s0 σe : St} (h : mX11_layWays a1 s0 = some σe) : Mc l g yX11_layWays cX11_layWays 7 none { frames := 4, cells := 0, slots := 0, locals := 87 } [.ref (g.2.2 45), .int a1] s0 none σe := by
  refine k_enter hg pnRX11 rfl (Nat.le_of_ble_eq_true rfl) ?_
  intro WK E
  have C := kX_y E
  unfold mX11_layWays at h
  show WK 0 [(0, .ref (g.2.2 45)), (1, .int a1)] [] s0
  refine k_iconst (v := (0 : Int32)) C (dk dX11_layWays_0 0 rfl) (by decide) ?_
  refine k_istore_n (lv' := [(2, .int (0 : Int32)), (0, .ref (g.2.2 45)), (1, .int a1)]) C (dk dX11_layWays_0 1 rfl) rfl (by decide) rfl ?_
  refine kl_L (P := (fun J2 => ∀ (y1 : Int32) (s2 : St), J2 y1 s2 = some σe → WK 2 [(0, .ref (g.2.2 45)), (1, .int a1), (2, .int y1)] [] s2)) h (fun _ _ h => nomatch h) (fun J2 hJ2 y1 s2 h => ?_) (fun J2 hJ2 h => ?_)
  ·
    unfold mX11_layWays_2 at h
    refine k_iload_n C (dk dX11_layWays_0 2 rfl) rfl 2 rfl ?_
    refine k_sipush (v := (1296 : Int32)) C (dk dX11_layWays_0 3 rfl) (by decide) ?_
    refine k_icmp_ge (tgt := 22) C (dk dX11_layWays_0 4 rfl) (by decide) h (fun h => ?_) (fun h => ?_)
    ·
      refine k_aload_n C (dk dX11_layWays_0 12 rfl) rfl 0 rfl ?_
      refine k_getR (q := 62) (D := RX11) (T := TX11) (N := 39) (ci := 6) (k := 34) C iCX11 rfl (by decide) rfl (by decide) (iW3 _ (List.mem_of_getElem? (i := 16) rfl)) rfl (dk dX11_layWays_0 13 rfl) ?_
      refine k_bipush (v := (36 : Int32)) C (dk dX11_layWays_0 14 rfl) (by decide) ?_
      refine k_aload_n C (dk dX11_layWays_0 15 rfl) rfl 0 rfl ?_
      refine k_getI (D := RX11) (T := TX11) (N := 39) (ci := 6) (k := 5) C iCX11 rfl (by decide) rfl (by decide) (iW2 _ (List.mem_of_getElem? (i := 29) rfl)) rfl (dk dX11_layWays_0 16 rfl) h (fun x3 h => ?_)
      refine k_imul C (dk dX11_layWays_0 17 rfl) ?_
      refine k_aload_n C (dk dX11_layWays_0 18 rfl) rfl 0 rfl ?_
      refine k_getI (D := RX11) (T := TX11) (N := 39) (ci := 6) (k := 6) C iCX11 rfl (by decide) rfl (by decide) (iW3 _ (List.mem_of_getElem? (i := 0) rfl)) rfl (dk dX11_layWays_0 19 rfl) h (fun x4 h => ?_)
      refine k_iadd C (dk dX11_layWays_0 20 rfl) ?_
      refine k_aload_n C (dk dX11_layWays_0 21 rfl) rfl 0 rfl ?_
      refine k_aload_n C (dk dX11_layWays_0 22 rfl) rfl 0 rfl ?_
      refine k_getI (D := RX11) (T := TX11) (N := 39) (ci := 6) (k := 5) C iCX11 rfl (by decide) rfl (by decide) (iW2 _ (List.mem_of_getElem? (i := 29) rfl)) rfl (dk dX11_layWays_0 23 rfl) h (fun x5 h => ?_)
      refine k_aload_n C (dk dX11_layWays_0 24 rfl) rfl 0 rfl ?_
      refine k_getI (D := RX11) (T := TX11) (N := 39) (ci := 6) (k := 6) C iCX11 rfl (by decide) rfl (by decide) (iW3 _ (List.mem_of_getElem? (i := 0) rfl)) rfl (dk dX11_layWays_0 25 rfl) h (fun x6 h => ?_)
      refine cl2_k h (fun x8 s7 hc h => ?_)
      refine k_cv (T := TX11) (N := 39) (ci := 6) (ob := 45) (As := [.int x5, .int x6]) (st := [.int (((36 : Int32) * x3) + x4), .ref (g.2.2 62)]) C (qX11_isPair l g hg hc) (iW17 _ (List.mem_of_getElem? (i := 8) rfl)) (iW17 _ (List.mem_of_getElem? (i := 9) rfl)) (iW17 _ (List.mem_of_getElem? (i := 10) rfl)) (iW0 _ (List.mem_of_getElem? (i := 5) rfl)) (iW17 _ (List.mem_of_getElem? (i := 11) rfl)) rfl rfl hdX11_isPair (by decide) rfl (by decide) rfl rfl rfl (Nat.le_of_ble_eq_true rfl) (dk dX11_layWays_0 26 rfl) ?_
      refine kl_J (P := (fun J58 => ∀ (y9 : Int64) (s10 : St), J58 y9 s10 = some σe → WK 58 [(0, .ref (g.2.2 45)), (1, .int a1)] [.long y9, .int (((36 : Int32) * x3) + x4), .ref (g.2.2 62)] s10)) h (fun y9 s10 h => ?_) (fun J58 hJ58 h => ?_)
      ·
        unfold mX11_layWays_58 at h
        refine k_last C rfl rfl (dk dX11_layWays_0 31 rfl) h (fun s11 h => ?_)
        refine k_iconst (v := (0 : Int32)) C (dk dX11_layWays_1 0 rfl) (by decide) ?_
        refine k_istore_n (lv' := [(2, .int (0 : Int32)), (0, .ref (g.2.2 45)), (1, .int a1)]) C (dk dX11_layWays_1 1 rfl) rfl (by decide) rfl ?_
        refine kl_L (P := (fun J61 => ∀ (y12 : Int32) (s13 : St), J61 y12 s13 = some σe → WK 61 [(0, .ref (g.2.2 45)), (1, .int a1), (2, .int y12)] [] s13)) h (fun _ _ h => nomatch h) (fun J61 hJ61 y12 s13 h => ?_) (fun J61 hJ61 h => ?_)
        ·
          unfold mX11_layWays_61 at h
          refine k_iload_n C (dk dX11_layWays_1 2 rfl) rfl 2 rfl ?_
          refine k_iload_n C (dk dX11_layWays_1 3 rfl) rfl 1 rfl ?_
          refine k_icmp_ge (tgt := 234) C (dk dX11_layWays_1 4 rfl) (by decide) h (fun h => ?_) (fun h => ?_)
          ·
            exact k_vret E (dk dX11_layWays_4 1 rfl) h
          ·
            refine k_iconst (v := (0 : Int32)) C (dk dX11_layWays_1 5 rfl) (by decide) ?_
            refine k_istore_n (lv' := [(3, .int (0 : Int32)), (0, .ref (g.2.2 45)), (1, .int a1), (2, .int y12)]) C (dk dX11_layWays_1 6 rfl) rfl (by decide) rfl ?_
            refine kl_L (P := (fun J68 => ∀ (y14 : Int32) (s15 : St), J68 y14 s15 = some σe → WK 68 [(0, .ref (g.2.2 45)), (1, .int a1), (2, .int y12), (3, .int y14)] [] s15)) h (fun _ _ h => nomatch h) (fun J68 hJ68 y14 s15 h => ?_) (fun J68 hJ68 h => ?_)
            ·
              unfold mX11_layWays_68 at h
              refine k_iload_n C (dk dX11_layWays_1 7 rfl) rfl 3 rfl ?_
              refine k_sipush (v := (1296 : Int32)) C (dk dX11_layWays_1 8 rfl) (by decide) ?_
              refine k_icmp_ge (tgt := 88) C (dk dX11_layWays_1 9 rfl) (by decide) h (fun h => ?_) (fun h => ?_)
              ·
                refine k_iconst (v := (0 : Int32)) C (dk dX11_layWays_1 17 rfl) (by decide) ?_
                refine k_istore_n (lv' := [(3, .int (0 : Int32)), (0, .ref (g.2.2 45)), (1, .int a1), (2, .int y12)]) C (dk dX11_layWays_1 18 rfl) rfl (by decide) rfl ?_
                refine kl_L (P := (fun J90 => ∀ (y16 : Int32) (s17 : St), J90 y16 s17 = some σe → WK 90 [(0, .ref (g.2.2 45)), (1, .int a1), (2, .int y12), (3, .int y16)] [] s17)) h (fun _ _ h => nomatch h) (fun J90 hJ90 y16 s17 h => ?_) (fun J90 hJ90 h => ?_)
                ·
                  unfold mX11_layWays_90 at h
                  refine k_iload_n C (dk dX11_layWays_1 19 rfl) rfl 3 rfl ?_
                  refine k_sipush (v := (1296 : Int32)) C (dk dX11_layWays_1 20 rfl) (by decide) ?_
                  refine k_icmp_ge (tgt := 201) C (dk dX11_layWays_1 21 rfl) (by decide) h (fun h => ?_) (fun h => ?_)
                  ·
                    refine k_iconst (v := (0 : Int32)) C (dk dX11_layWays_3 16 rfl) (by decide) ?_
                    refine k_istore_n (lv' := [(3, .int (0 : Int32)), (0, .ref (g.2.2 45)), (1, .int a1), (2, .int y12)]) C (dk dX11_layWays_3 17 rfl) rfl (by decide) rfl ?_
                    refine kl_L (P := (fun J203 => ∀ (y18 : Int32) (s19 : St), J203 y18 s19 = some σe → WK 203 [(0, .ref (g.2.2 45)), (1, .int a1), (2, .int y12), (3, .int y18)] [] s19)) h (fun _ _ h => nomatch h) (fun J203 hJ203 y18 s19 h => ?_) (fun J203 hJ203 h => ?_)
                    ·
                      unfold mX11_layWays_203 at h
                      refine k_iload_n C (dk dX11_layWays_3 18 rfl) rfl 3 rfl ?_
                      refine k_sipush (v := (1296 : Int32)) C (dk dX11_layWays_3 19 rfl) (by decide) ?_
                      refine k_icmp_ge (tgt := 228) C (dk dX11_layWays_3 20 rfl) (by decide) h (fun h => ?_) (fun h => ?_)
                      ·
                        refine k_iinc (lv' := [(2, .int (y12 + 1)), (0, .ref (g.2.2 45)), (1, .int a1), (3, .int y18)]) C (dk dX11_layWays_3 31 rfl) (j := 2) rfl rfl (by decide) rfl ?_
                        refine k_goto (tgt := 61) C (dk dX11_layWays_4 0 rfl) (by decide) ?_
                        refine k_sub C [1, 2, 0] rfl ?_
                        exact hJ61 _ _ h
                      ·
                        refine k_aload_n C (dk dX11_layWays_3 21 rfl) rfl 0 rfl ?_
                        refine k_getR (q := 62) (D := RX11) (T := TX11) (N := 39) (ci := 6) (k := 34) C iCX11 rfl (by decide) rfl (by decide) (iW3 _ (List.mem_of_getElem? (i := 16) rfl)) rfl (dk dX11_layWays_3 22 rfl) ?_
                        refine k_iload_n C (dk dX11_layWays_3 23 rfl) rfl 3 rfl ?_
                        refine k_aload_n C (dk dX11_layWays_3 24 rfl) rfl 0 rfl ?_
                        refine k_getR (q := 63) (D := RX11) (T := TX11) (N := 39) (ci := 6) (k := 35) C iCX11 rfl (by decide) rfl (by decide) (iW3 _ (List.mem_of_getElem? (i := 17) rfl)) rfl (dk dX11_layWays_3 25 rfl) ?_
                        refine k_iload_n C (dk dX11_layWays_3 26 rfl) rfl 3 rfl ?_
                        refine k_lald C rfl rfl (dk dX11_layWays_3 27 rfl) h (fun x20 h => ?_)
                        refine k_last C rfl rfl (dk dX11_layWays_3 28 rfl) h (fun s21 h => ?_)
                        refine k_iinc (lv' := [(3, .int (y18 + 1)), (0, .ref (g.2.2 45)), (1, .int a1), (2, .int y12)]) C (dk dX11_layWays_3 29 rfl) (j := 3) rfl rfl (by decide) rfl ?_
                        refine k_goto (tgt := 203) C (dk dX11_layWays_3 30 rfl) (by decide) ?_
                        refine k_sub C [1, 2, 3, 0] rfl ?_
                        exact hJ203 _ _ h
                    ·
                      refine k_sub C [1, 2, 3, 0] rfl ?_
                      exact hJ203 _ _ h
                  ·
                    refine k_iconst (v := (0 : Int32)) C (dk dX11_layWays_1 22 rfl) (by decide) ?_
                    refine k_istore (lv' := [(4, .int (0 : Int32)), (0, .ref (g.2.2 45)), (1, .int a1), (2, .int y12), (3, .int y16)]) C (dk dX11_layWays_1 23 rfl) (by decide) rfl ?_
                    refine kl_L (P := (fun J100 => ∀ (y22 : Int32) (s23 : St), J100 y22 s23 = some σe → WK 100 [(0, .ref (g.2.2 45)), (1, .int a1), (2, .int y12), (3, .int y16), (4, .int y22)] [] s23)) h (fun _ _ h => nomatch h) (fun J100 hJ100 y22 s23 h => ?_) (fun J100 hJ100 h => ?_)
                    ·
                      unfold mX11_layWays_100 at h
                      refine k_iload C (dk dX11_layWays_1 24 rfl) 4 rfl ?_
                      refine k_bipush (v := (25 : Int32)) C (dk dX11_layWays_1 25 rfl) (by decide) ?_
                      refine kl_J (P := (fun J195 => ∀ (y24 : Int32) (s25 : St), J195 y24 s25 = some σe → WK 195 [(0, .ref (g.2.2 45)), (1, .int a1), (2, .int y12), (3, .int y24)] [] s25)) h (fun y24 s25 h => ?_) (fun J195 hJ195 h => ?_)
                      ·
                        unfold mX11_layWays_195 at h
                        refine k_iinc (lv' := [(3, .int (y24 + 1)), (0, .ref (g.2.2 45)), (1, .int a1), (2, .int y12)]) C (dk dX11_layWays_3 14 rfl) (j := 3) rfl rfl (by decide) rfl ?_
                        refine k_goto (tgt := 90) C (dk dX11_layWays_3 15 rfl) (by decide) ?_
                        refine k_sub C [1, 2, 3, 0] rfl ?_
                        exact hJ90 _ _ h
                      ·
                        refine k_icmp_ge (tgt := 195) C (dk dX11_layWays_1 26 rfl) (by decide) h (fun h => ?_) (fun h => ?_)
                        ·
                          refine k_sub C [0, 1, 2, 3] rfl ?_
                          exact hJ195 _ _ h
                        ·
                          refine k_aload_n C (dk dX11_layWays_1 27 rfl) rfl 0 rfl ?_
                          refine k_getR (q := 62) (D := RX11) (T := TX11) (N := 39) (ci := 6) (k := 34) C iCX11 rfl (by decide) rfl (by decide) (iW3 _ (List.mem_of_getElem? (i := 16) rfl)) rfl (dk dX11_layWays_1 28 rfl) ?_
                          refine k_iload_n C (dk dX11_layWays_1 29 rfl) rfl 3 rfl ?_
                          refine k_lald C rfl rfl (dk dX11_layWays_1 30 rfl) h (fun x26 h => ?_)
                          refine k_lconst (v := (0 : Int64)) C (dk dX11_layWays_1 31 rfl) (by decide) ?_
                          refine k_lcmp C (dk dX11_layWays_2 0 rfl) ?_
                          refine k_if_le (tgt := 195) C (dk dX11_layWays_2 1 rfl) (by decide) h (fun h => ?_) (fun h => ?_)
                          ·
                            refine k_sub C [0, 1, 2, 3] rfl ?_
                            exact hJ195 _ _ h
                          ·
                            refine k_aload_n C (dk dX11_layWays_2 2 rfl) rfl 0 rfl ?_
                            refine k_iload_n C (dk dX11_layWays_2 3 rfl) rfl 3 rfl ?_
                            refine k_bipush (v := (36 : Int32)) C (dk dX11_layWays_2 4 rfl) (by decide) ?_
                            refine k_idiv C (dk dX11_layWays_2 5 rfl) (by decide) ?_
                            refine k_iload C (dk dX11_layWays_2 6 rfl) 4 rfl ?_
                            refine k_iconst (v := (5 : Int32)) C (dk dX11_layWays_2 7 rfl) (by decide) ?_
                            refine k_idiv C (dk dX11_layWays_2 8 rfl) (by decide) ?_
                            refine cl2_k h (fun x28 s27 hc h => ?_)
                            refine k_cv (T := TX11) (N := 39) (ci := 6) (ob := 45) (As := [.int (y16 / (36 : Int32)), .int (y22 / (5 : Int32))]) (st := []) C (qX11_goneTo l g hg hc) (iW9 _ (List.mem_of_getElem? (i := 29) rfl)) (iW10 _ (List.mem_of_getElem? (i := 0) rfl)) (iW10 _ (List.mem_of_getElem? (i := 1) rfl)) (iW0 _ (List.mem_of_getElem? (i := 5) rfl)) (iW10 _ (List.mem_of_getElem? (i := 2) rfl)) rfl rfl hdX11_goneTo (by decide) rfl (by decide) rfl rfl rfl (Nat.le_of_ble_eq_true rfl) (dk dX11_layWays_2 9 rfl) ?_
                            refine k_istore (lv' := [(5, .int x28), (0, .ref (g.2.2 45)), (1, .int a1), (2, .int y12), (3, .int y16), (4, .int y22)]) C (dk dX11_layWays_2 10 rfl) (by decide) rfl ?_
                            refine k_aload_n C (dk dX11_layWays_2 11 rfl) rfl 1 rfl ?_
                            refine k_iload_n C (dk dX11_layWays_2 12 rfl) rfl 4 rfl ?_
                            refine k_bipush (v := (36 : Int32)) C (dk dX11_layWays_2 13 rfl) (by decide) ?_
                            refine k_irem C (dk dX11_layWays_2 14 rfl) (by decide) ?_
                            refine k_iload C (dk dX11_layWays_2 15 rfl) 5 rfl ?_
                            refine k_iconst (v := (5 : Int32)) C (dk dX11_layWays_2 16 rfl) (by decide) ?_
                            refine k_irem C (dk dX11_layWays_2 17 rfl) (by decide) ?_
                            refine cl2_k h (fun x30 s29 hc h => ?_)
                            refine k_cv (T := TX11) (N := 39) (ci := 6) (ob := 45) (As := [.int (y16 - y16 / (36 : Int32) * (36 : Int32)), .int (y22 - y22 / (5 : Int32) * (5 : Int32))]) (st := []) C (qX11_goneTo l g hg hc) (iW9 _ (List.mem_of_getElem? (i := 29) rfl)) (iW10 _ (List.mem_of_getElem? (i := 0) rfl)) (iW10 _ (List.mem_of_getElem? (i := 1) rfl)) (iW0 _ (List.mem_of_getElem? (i := 5) rfl)) (iW10 _ (List.mem_of_getElem? (i := 2) rfl)) rfl rfl hdX11_goneTo (by decide) rfl (by decide) rfl rfl rfl (Nat.le_of_ble_eq_true rfl) (dk dX11_layWays_2 18 rfl) ?_
                            refine k_istore (lv' := [(6, .int x30), (5, .int x28), (0, .ref (g.2.2 45)), (1, .int a1), (2, .int y12), (3, .int y16), (4, .int y22)]) C (dk dX11_layWays_2 19 rfl) (by decide) rfl ?_
                            refine k_iload C (dk dX11_layWays_2 20 rfl) 1 rfl ?_
                            refine kl_J (P := (fun J189 => ∀ (y31 : Int32) (s32 : St), J189 y31 s32 = some σe → WK 189 [(0, .ref (g.2.2 45)), (1, .int a1), (2, .int y12), (3, .int y16), (4, .int y31)] [] s32)) h (fun y31 s32 h => ?_) (fun J189 hJ189 h => ?_)
                            ·
                              unfold mX11_layWays_189 at h
                              refine k_iinc (lv' := [(4, .int (y31 + 1)), (0, .ref (g.2.2 45)), (1, .int a1), (2, .int y12), (3, .int y16)]) C (dk dX11_layWays_3 12 rfl) (j := 4) rfl rfl (by decide) rfl ?_
                              refine k_goto (tgt := 100) C (dk dX11_layWays_3 13 rfl) (by decide) ?_
                              refine k_sub C [1, 2, 3, 4, 0] rfl ?_
                              exact hJ100 _ _ h
                            ·
                              refine k_if_lt (tgt := 189) C (dk dX11_layWays_2 21 rfl) (by decide) h (fun h => ?_) (fun h => ?_)
                              ·
                                refine k_sub C [2, 3, 4, 5, 6] rfl ?_
                                exact hJ189 _ _ h
                              ·
                                refine k_iload C (dk dX11_layWays_2 22 rfl) 0 rfl ?_
                                refine k_if_lt (tgt := 189) C (dk dX11_layWays_2 23 rfl) (by decide) h (fun h => ?_) (fun h => ?_)
                                ·
                                  refine k_sub C [2, 3, 4, 5, 6] rfl ?_
                                  exact hJ189 _ _ h
                                ·
                                  refine k_aload_n C (dk dX11_layWays_2 24 rfl) rfl 2 rfl ?_
                                  refine k_iload C (dk dX11_layWays_2 25 rfl) 1 rfl ?_
                                  refine k_iload C (dk dX11_layWays_2 26 rfl) 0 rfl ?_
                                  refine cl2_k h (fun x34 s33 hc h => ?_)
                                  refine k_cv (T := TX11) (N := 39) (ci := 6) (ob := 45) (As := [.int x28, .int x30]) (st := []) C (qX11_isPair l g hg hc) (iW17 _ (List.mem_of_getElem? (i := 8) rfl)) (iW17 _ (List.mem_of_getElem? (i := 9) rfl)) (iW17 _ (List.mem_of_getElem? (i := 10) rfl)) (iW0 _ (List.mem_of_getElem? (i := 5) rfl)) (iW17 _ (List.mem_of_getElem? (i := 11) rfl)) rfl rfl hdX11_isPair (by decide) rfl (by decide) rfl rfl rfl (Nat.le_of_ble_eq_true rfl) (dk dX11_layWays_2 27 rfl) ?_
                                  refine k_if_eq (tgt := 189) C (dk dX11_layWays_2 28 rfl) (by decide) h (fun h => ?_) (fun h => ?_)
                                  ·
                                    refine k_sub C [2, 3, 4, 5, 6] rfl ?_
                                    exact hJ189 _ _ h
                                  ·
                                    refine k_aload_n C (dk dX11_layWays_2 29 rfl) rfl 2 rfl ?_
                                    refine k_getR (q := 63) (D := RX11) (T := TX11) (N := 39) (ci := 6) (k := 35) C iCX11 rfl (by decide) rfl (by decide) (iW3 _ (List.mem_of_getElem? (i := 17) rfl)) rfl (dk dX11_layWays_2 30 rfl) ?_
                                    refine k_bipush (v := (36 : Int32)) C (dk dX11_layWays_2 31 rfl) (by decide) ?_
                                    refine k_iload C (dk dX11_layWays_3 0 rfl) 1 rfl ?_
                                    refine k_imul C (dk dX11_layWays_3 1 rfl) ?_
                                    refine k_iload C (dk dX11_layWays_3 2 rfl) 0 rfl ?_
                                    refine k_iadd C (dk dX11_layWays_3 3 rfl) ?_
                                    refine k_dup2 C (dk dX11_layWays_3 4 rfl) rfl rfl ?_
                                    refine k_lald C rfl rfl (dk dX11_layWays_3 5 rfl) h (fun x35 h => ?_)
                                    refine k_aload_n C (dk dX11_layWays_3 6 rfl) rfl 2 rfl ?_
                                    refine k_getR (q := 62) (D := RX11) (T := TX11) (N := 39) (ci := 6) (k := 34) C iCX11 rfl (by decide) rfl (by decide) (iW3 _ (List.mem_of_getElem? (i := 16) rfl)) rfl (dk dX11_layWays_3 7 rfl) ?_
                                    refine k_iload_n C (dk dX11_layWays_3 8 rfl) rfl 5 rfl ?_
                                    refine k_lald C rfl rfl (dk dX11_layWays_3 9 rfl) h (fun x36 h => ?_)
                                    refine k_ladd C (dk dX11_layWays_3 10 rfl) ?_
                                    refine k_last C rfl rfl (dk dX11_layWays_3 11 rfl) h (fun s37 h => ?_)
                                    refine k_sub C [2, 3, 4, 5, 6] rfl ?_
                                    exact hJ189 _ _ h
                    ·
                      refine k_sub C [1, 2, 3, 4, 0] rfl ?_
                      exact hJ100 _ _ h
                ·
                  refine k_sub C [1, 2, 3, 0] rfl ?_
                  exact hJ90 _ _ h
              ·
                refine k_aload_n C (dk dX11_layWays_1 10 rfl) rfl 0 rfl ?_
                refine k_getR (q := 63) (D := RX11) (T := TX11) (N := 39) (ci := 6) (k := 35) C iCX11 rfl (by decide) rfl (by decide) (iW3 _ (List.mem_of_getElem? (i := 17) rfl)) rfl (dk dX11_layWays_1 11 rfl) ?_
                refine k_iload_n C (dk dX11_layWays_1 12 rfl) rfl 3 rfl ?_
                refine k_lconst (v := (0 : Int64)) C (dk dX11_layWays_1 13 rfl) (by decide) ?_
                refine k_last C rfl rfl (dk dX11_layWays_1 14 rfl) h (fun s38 h => ?_)
                refine k_iinc (lv' := [(3, .int (y14 + 1)), (0, .ref (g.2.2 45)), (1, .int a1), (2, .int y12)]) C (dk dX11_layWays_1 15 rfl) (j := 3) rfl rfl (by decide) rfl ?_
                refine k_goto (tgt := 68) C (dk dX11_layWays_1 16 rfl) (by decide) ?_
                refine k_sub C [1, 2, 3, 0] rfl ?_
                exact hJ68 _ _ h
            ·
              refine k_sub C [1, 2, 3, 0] rfl ?_
              exact hJ68 _ _ h
        ·
          refine k_sub C [1, 2, 0] rfl ?_
          exact hJ61 _ _ h
      ·
        refine k_if_eq (tgt := 57) C (dk dX11_layWays_0 27 rfl) (by decide) h (fun h => ?_) (fun h => ?_)
        ·
          refine k_lconst (v := (0 : Int64)) C (dk dX11_layWays_0 30 rfl) (by decide) ?_
          refine k_sub C [0, 1] rfl ?_
          exact hJ58 _ _ h
        ·
          refine k_lconst (v := (1 : Int64)) C (dk dX11_layWays_0 28 rfl) (by decide) ?_
          refine k_goto (tgt := 58) C (dk dX11_layWays_0 29 rfl) (by decide) ?_
          refine k_sub C [0, 1] rfl ?_
          exact hJ58 _ _ h
    ·
      refine k_aload_n C (dk dX11_layWays_0 5 rfl) rfl 0 rfl ?_
      refine k_getR (q := 62) (D := RX11) (T := TX11) (N := 39) (ci := 6) (k := 34) C iCX11 rfl (by decide) rfl (by decide) (iW3 _ (List.mem_of_getElem? (i := 16) rfl)) rfl (dk dX11_layWays_0 6 rfl) ?_
      refine k_iload_n C (dk dX11_layWays_0 7 rfl) rfl 2 rfl ?_
      refine k_lconst (v := (0 : Int64)) C (dk dX11_layWays_0 8 rfl) (by decide) ?_
      refine k_last C rfl rfl (dk dX11_layWays_0 9 rfl) h (fun s39 h => ?_)
      refine k_iinc (lv' := [(2, .int (y1 + 1)), (0, .ref (g.2.2 45)), (1, .int a1)]) C (dk dX11_layWays_0 10 rfl) (j := 2) rfl rfl (by decide) rfl ?_
      refine k_goto (tgt := 2) C (dk dX11_layWays_0 11 rfl) (by decide) ?_
      refine k_sub C [1, 2, 0] rfl ?_
      exact hJ2 _ _ h
  ·
    refine k_sub C [1, 2, 0] rfl ?_
    exact hJ2 _ _ h
set_option maxRecDepth 100000 in
set_option maxHeartbeats 4000000 in
theorem qX11_wrongWays (l : Launch) (g : G) (hg : gOK g) {a1 : Int32}  {s0 σe : St} {v : Int32} (h : mX11_wrongWays a1 s0 = some (v, σe)) : Mc l g yX11_wrongWays cX11_wrongWays 2 (some .int) { frames := 1, cells := 0, slots := 0, locals := 25 } [.ref (g.2.2 45), .int a1] s0 (some (.int v)) σe := by
  refine k_enter hg pnRX11 rfl (Nat.le_of_ble_eq_true rfl) ?_
  intro WK E
  have C := kX_y E
  unfold mX11_wrongWays at h
  show WK 0 [(0, .ref (g.2.2 45)), (1, .int a1)] [] s0
  refine k_iload_n C (dk dX11_wrongWays_0 0 rfl) rfl 1 rfl ?_
  refine k_i2l C (dk dX11_wrongWays_0 1 rfl) ?_
  refine k_lconst (v := (0 : Int64)) C (dk dX11_wrongWays_0 2 rfl) (by decide) ?_
  refine k_ldc2 (v := (10 : Int64)) C (dk dX11_wrongWays_0 3 rfl) (iW24 _ (List.mem_of_getElem? (i := 17) rfl)) ?_
  refine cl2_k h (fun x2 s1 hc h => ?_)
  refine k_cs (As := [.long a1.toInt64, .long (0 : Int64), .long (10 : Int64)]) (st := []) C (qX11_in l g hg hc) (iW8 _ (List.mem_of_getElem? (i := 16) rfl)) (iW8 _ (List.mem_of_getElem? (i := 17) rfl)) (iW0 _ (List.mem_of_getElem? (i := 5) rfl)) (iW8 _ (List.mem_of_getElem? (i := 18) rfl)) rfl rfl hdX11_in (by decide) rfl rfl (Nat.le_of_ble_eq_true rfl) (dk dX11_wrongWays_0 4 rfl) ?_
  refine k_if_ne (tgt := 16) C (dk dX11_wrongWays_0 5 rfl) (by decide) h (fun h => ?_) (fun h => ?_)
  ·
    refine k_aload_n C (dk dX11_wrongWays_0 8 rfl) rfl 0 rfl ?_
    refine cl2_k h (fun x4 s3 hc h => ?_)
    refine k_cv (T := TX11) (N := 39) (ci := 6) (ob := 45) (As := []) (st := []) C (qX11_areBoth l g hg hc) (iW21 _ (List.mem_of_getElem? (i := 6) rfl)) (iW21 _ (List.mem_of_getElem? (i := 7) rfl)) (iW21 _ (List.mem_of_getElem? (i := 8) rfl)) (iW0 _ (List.mem_of_getElem? (i := 5) rfl)) (iW21 _ (List.mem_of_getElem? (i := 9) rfl)) rfl rfl hdX11_areBoth (by decide) rfl (by decide) rfl rfl rfl (Nat.le_of_ble_eq_true rfl) (dk dX11_wrongWays_0 9 rfl) ?_
    refine k_if_eq (tgt := 27) C (dk dX11_wrongWays_0 10 rfl) (by decide) h (fun h => ?_) (fun h => ?_)
    ·
      refine k_bipush (v := (-3 : Int32)) C (dk dX11_wrongWays_0 13 rfl) (by decide) ?_
      exact k_iret E (dk dX11_wrongWays_0 14 rfl) h
    ·
      refine k_iconst (v := (0 : Int32)) C (dk dX11_wrongWays_0 11 rfl) (by decide) ?_
      refine k_goto (tgt := 29) C (dk dX11_wrongWays_0 12 rfl) (by decide) ?_
      exact k_iret E (dk dX11_wrongWays_0 14 rfl) h
  ·
    refine k_iconst (v := (-1 : Int32)) C (dk dX11_wrongWays_0 6 rfl) (by decide) ?_
    refine k_goto (tgt := 29) C (dk dX11_wrongWays_0 7 rfl) (by decide) ?_
    exact k_iret E (dk dX11_wrongWays_0 14 rfl) h
set_option maxRecDepth 100000 in
set_option maxHeartbeats 4000000 in
theorem qX11_ways (l : Launch) (g : G) (hg : gOK g) {a1 : Int32}  {s0 σe : St} {v : Int64} (h : mX11_ways a1 s0 = some (v, σe)) : Mc l g yX11_ways cX11_ways 5 (some .long) { frames := 5, cells := 0, slots := 0, locals := 113 } [.ref (g.2.2 45), .int a1] s0 (some (.long v)) σe := by
  refine k_enter hg pnRX11 rfl (Nat.le_of_ble_eq_true rfl) ?_
  intro WK E
  have C := kX_y E
  unfold mX11_ways at h
  show WK 0 [(0, .ref (g.2.2 45)), (1, .int a1)] [] s0
  refine k_aload_n C (dk dX11_ways_0 0 rfl) rfl 0 rfl ?_
  refine k_iconst (v := (0 : Int32)) C (dk dX11_ways_0 1 rfl) (by decide) ?_
  refine k_putI (D := RX11) (T := TX11) (N := 39) (ci := 6) (k := 16) C iCX11 tyX11_ok nmX11 rfl (by decide) rfl (by decide) (iW3 _ (List.mem_of_getElem? (i := 20) rfl)) rfl rfl flq6_16 flp6_16 (dk dX11_ways_0 2 rfl) h (fun s1 h => ?_)
  refine k_aload_n C (dk dX11_ways_0 3 rfl) rfl 0 rfl ?_
  refine k_iload_n C (dk dX11_ways_0 4 rfl) rfl 1 rfl ?_
  refine cl2_k h (fun x3 s2 hc h => ?_)
  refine k_cv (T := TX11) (N := 39) (ci := 6) (ob := 45) (As := [.int a1]) (st := []) C (qX11_wrongWays l g hg hc) (iW24 _ (List.mem_of_getElem? (i := 13) rfl)) (iW24 _ (List.mem_of_getElem? (i := 14) rfl)) (iW24 _ (List.mem_of_getElem? (i := 15) rfl)) (iW0 _ (List.mem_of_getElem? (i := 5) rfl)) (iW24 _ (List.mem_of_getElem? (i := 16) rfl)) rfl rfl hdX11_wrongWays (by decide) rfl (by decide) rfl rfl rfl (Nat.le_of_ble_eq_true rfl) (dk dX11_ways_0 5 rfl) ?_
  refine k_if_ge (tgt := 24) C (dk dX11_ways_0 6 rfl) (by decide) h (fun h => ?_) (fun h => ?_)
  ·
    refine k_aload_n C (dk dX11_ways_0 14 rfl) rfl 0 rfl ?_
    refine k_iload_n C (dk dX11_ways_0 15 rfl) rfl 1 rfl ?_
    refine cl1_k h (fun s4 hc h => ?_)
    refine k_cv (T := TX11) (N := 39) (ci := 6) (ob := 45) (As := [.int a1]) (st := []) C (qX11_layWays l g hg hc) (iW24 _ (List.mem_of_getElem? (i := 18) rfl)) (iW24 _ (List.mem_of_getElem? (i := 19) rfl)) (iW24 _ (List.mem_of_getElem? (i := 20) rfl)) (iW0 _ (List.mem_of_getElem? (i := 5) rfl)) (iW24 _ (List.mem_of_getElem? (i := 21) rfl)) rfl rfl hdX11_layWays (by decide) rfl (by decide) rfl rfl rfl (Nat.le_of_ble_eq_true rfl) (dk dX11_ways_0 16 rfl) ?_
    refine k_lconst (v := (0 : Int64)) C (dk dX11_ways_0 17 rfl) (by decide) ?_
    refine k_lstore_n (lv' := [(2, .long (0 : Int64)), (0, .ref (g.2.2 45)), (1, .int a1)]) C (dk dX11_ways_0 18 rfl) rfl (by decide) rfl ?_
    refine k_iconst (v := (0 : Int32)) C (dk dX11_ways_0 19 rfl) (by decide) ?_
    refine k_istore (lv' := [(4, .int (0 : Int32)), (2, .long (0 : Int64)), (0, .ref (g.2.2 45)), (1, .int a1)]) C (dk dX11_ways_0 20 rfl) (by decide) rfl ?_
    refine kl_L (P := (fun J34 => ∀ (y5 : Int64) (y6 : Int32) (s7 : St), J34 y5 y6 s7 = some (v, σe) → WK 34 [(0, .ref (g.2.2 45)), (2, .long y5), (4, .int y6)] [] s7)) h (fun _ _ _ h => nomatch h) (fun J34 hJ34 y5 y6 s7 h => ?_) (fun J34 hJ34 h => ?_)
    ·
      unfold mX11_ways_34 at h
      refine k_iload C (dk dX11_ways_0 21 rfl) 2 rfl ?_
      refine k_sipush (v := (1296 : Int32)) C (dk dX11_ways_0 22 rfl) (by decide) ?_
      refine k_icmp_ge (tgt := 58) C (dk dX11_ways_0 23 rfl) (by decide) h (fun h => ?_) (fun h => ?_)
      ·
        refine k_lload_n C (dk dX11_ways_1 1 rfl) rfl 1 rfl ?_
        exact k_lret E (dk dX11_ways_1 2 rfl) h
      ·
        refine k_lload_n C (dk dX11_ways_0 24 rfl) rfl 1 rfl ?_
        refine k_aload_n C (dk dX11_ways_0 25 rfl) rfl 0 rfl ?_
        refine k_getR (q := 62) (D := RX11) (T := TX11) (N := 39) (ci := 6) (k := 34) C iCX11 rfl (by decide) rfl (by decide) (iW3 _ (List.mem_of_getElem? (i := 16) rfl)) rfl (dk dX11_ways_0 26 rfl) ?_
        refine k_iload C (dk dX11_ways_0 27 rfl) 2 rfl ?_
        refine k_lald C rfl rfl (dk dX11_ways_0 28 rfl) h (fun x8 h => ?_)
        refine k_ladd C (dk dX11_ways_0 29 rfl) ?_
        refine nmL h (fun x9 h => ?_)
        refine k_lstore_n (lv' := [(2, .long x9), (0, .ref (g.2.2 45)), (4, .int y6)]) C (dk dX11_ways_0 30 rfl) rfl (by decide) rfl ?_
        refine k_iinc (lv' := [(4, .int (y6 + 1)), (2, .long x9), (0, .ref (g.2.2 45))]) C (dk dX11_ways_0 31 rfl) (j := 2) rfl rfl (by decide) rfl ?_
        refine k_goto (tgt := 34) C (dk dX11_ways_1 0 rfl) (by decide) ?_
        refine k_sub C [2, 1, 0] rfl ?_
        exact hJ34 _ _ _ h
    ·
      refine k_sub C [2, 1, 0] rfl ?_
      exact hJ34 _ _ _ h
  ·
    refine k_aload_n C (dk dX11_ways_0 7 rfl) rfl 0 rfl ?_
    refine k_iload_n C (dk dX11_ways_0 8 rfl) rfl 1 rfl ?_
    refine cl2_k h (fun x11 s10 hc h => ?_)
    refine k_cv (T := TX11) (N := 39) (ci := 6) (ob := 45) (As := [.int a1]) (st := []) C (qX11_wrongWays l g hg hc) (iW24 _ (List.mem_of_getElem? (i := 13) rfl)) (iW24 _ (List.mem_of_getElem? (i := 14) rfl)) (iW24 _ (List.mem_of_getElem? (i := 15) rfl)) (iW0 _ (List.mem_of_getElem? (i := 5) rfl)) (iW24 _ (List.mem_of_getElem? (i := 16) rfl)) rfl rfl hdX11_wrongWays (by decide) rfl (by decide) rfl rfl rfl (Nat.le_of_ble_eq_true rfl) (dk dX11_ways_0 9 rfl) ?_
    refine k_ldcw (v := (1000000000 : Int32)) C (dk dX11_ways_0 10 rfl) (iW24 _ (List.mem_of_getElem? (i := 12) rfl)) ?_
    refine k_isub C (dk dX11_ways_0 11 rfl) ?_
    refine k_i2l C (dk dX11_ways_0 12 rfl) ?_
    exact k_lret E (dk dX11_ways_0 13 rfl) h
set_option maxRecDepth 100000 in
set_option maxHeartbeats 4000000 in
theorem qX11_rounds (l : Launch) (g : G) (hg : gOK g) {a1 : Int32}  {s0 σe : St} {v : Int64} (h : mX11_rounds a1 s0 = some (v, σe)) : Mc l g yX11_rounds cX11_rounds 2 (some .long) { frames := 5, cells := 0, slots := 0, locals := 113 } [.ref (g.2.2 45), .int a1] s0 (some (.long v)) σe := by
  refine k_enter hg pnRX11 rfl (Nat.le_of_ble_eq_true rfl) ?_
  intro WK E
  have C := kX_y E
  unfold mX11_rounds at h
  show WK 0 [(0, .ref (g.2.2 45)), (1, .int a1)] [] s0
  refine k_aload_n C (dk dX11_rounds_0 0 rfl) rfl 0 rfl ?_
  refine k_iconst (v := (0 : Int32)) C (dk dX11_rounds_0 1 rfl) (by decide) ?_
  refine k_putI (D := RX11) (T := TX11) (N := 39) (ci := 6) (k := 16) C iCX11 tyX11_ok nmX11 rfl (by decide) rfl (by decide) (iW3 _ (List.mem_of_getElem? (i := 20) rfl)) rfl rfl flq6_16 flp6_16 (dk dX11_rounds_0 2 rfl) h (fun s1 h => ?_)
  refine k_aload_n C (dk dX11_rounds_0 3 rfl) rfl 0 rfl ?_
  refine k_iload_n C (dk dX11_rounds_0 4 rfl) rfl 1 rfl ?_
  refine cl2_k h (fun x3 s2 hc h => ?_)
  refine k_cv (T := TX11) (N := 39) (ci := 6) (ob := 45) (As := [.int a1]) (st := []) C (qX11_wrongWays l g hg hc) (iW24 _ (List.mem_of_getElem? (i := 13) rfl)) (iW24 _ (List.mem_of_getElem? (i := 14) rfl)) (iW24 _ (List.mem_of_getElem? (i := 15) rfl)) (iW0 _ (List.mem_of_getElem? (i := 5) rfl)) (iW24 _ (List.mem_of_getElem? (i := 16) rfl)) rfl rfl hdX11_wrongWays (by decide) rfl (by decide) rfl rfl rfl (Nat.le_of_ble_eq_true rfl) (dk dX11_rounds_0 5 rfl) ?_
  refine k_if_ge (tgt := 24) C (dk dX11_rounds_0 6 rfl) (by decide) h (fun h => ?_) (fun h => ?_)
  ·
    refine k_aload_n C (dk dX11_rounds_0 14 rfl) rfl 0 rfl ?_
    refine k_iload_n C (dk dX11_rounds_0 15 rfl) rfl 1 rfl ?_
    refine cl1_k h (fun s4 hc h => ?_)
    refine k_cv (T := TX11) (N := 39) (ci := 6) (ob := 45) (As := [.int a1]) (st := []) C (qX11_layWays l g hg hc) (iW24 _ (List.mem_of_getElem? (i := 18) rfl)) (iW24 _ (List.mem_of_getElem? (i := 19) rfl)) (iW24 _ (List.mem_of_getElem? (i := 20) rfl)) (iW0 _ (List.mem_of_getElem? (i := 5) rfl)) (iW24 _ (List.mem_of_getElem? (i := 21) rfl)) rfl rfl hdX11_layWays (by decide) rfl (by decide) rfl rfl rfl (Nat.le_of_ble_eq_true rfl) (dk dX11_rounds_0 16 rfl) ?_
    refine k_aload_n C (dk dX11_rounds_0 17 rfl) rfl 0 rfl ?_
    refine k_getR (q := 62) (D := RX11) (T := TX11) (N := 39) (ci := 6) (k := 34) C iCX11 rfl (by decide) rfl (by decide) (iW3 _ (List.mem_of_getElem? (i := 16) rfl)) rfl (dk dX11_rounds_0 18 rfl) ?_
    refine k_bipush (v := (36 : Int32)) C (dk dX11_rounds_0 19 rfl) (by decide) ?_
    refine k_aload_n C (dk dX11_rounds_0 20 rfl) rfl 0 rfl ?_
    refine k_getI (D := RX11) (T := TX11) (N := 39) (ci := 6) (k := 5) C iCX11 rfl (by decide) rfl (by decide) (iW2 _ (List.mem_of_getElem? (i := 29) rfl)) rfl (dk dX11_rounds_0 21 rfl) h (fun x5 h => ?_)
    refine k_imul C (dk dX11_rounds_0 22 rfl) ?_
    refine k_aload_n C (dk dX11_rounds_0 23 rfl) rfl 0 rfl ?_
    refine k_getI (D := RX11) (T := TX11) (N := 39) (ci := 6) (k := 6) C iCX11 rfl (by decide) rfl (by decide) (iW3 _ (List.mem_of_getElem? (i := 0) rfl)) rfl (dk dX11_rounds_0 24 rfl) h (fun x6 h => ?_)
    refine k_iadd C (dk dX11_rounds_0 25 rfl) ?_
    refine k_lald C rfl rfl (dk dX11_rounds_0 26 rfl) h (fun x7 h => ?_)
    exact k_lret E (dk dX11_rounds_0 27 rfl) h
  ·
    refine k_aload_n C (dk dX11_rounds_0 7 rfl) rfl 0 rfl ?_
    refine k_iload_n C (dk dX11_rounds_0 8 rfl) rfl 1 rfl ?_
    refine cl2_k h (fun x9 s8 hc h => ?_)
    refine k_cv (T := TX11) (N := 39) (ci := 6) (ob := 45) (As := [.int a1]) (st := []) C (qX11_wrongWays l g hg hc) (iW24 _ (List.mem_of_getElem? (i := 13) rfl)) (iW24 _ (List.mem_of_getElem? (i := 14) rfl)) (iW24 _ (List.mem_of_getElem? (i := 15) rfl)) (iW0 _ (List.mem_of_getElem? (i := 5) rfl)) (iW24 _ (List.mem_of_getElem? (i := 16) rfl)) rfl rfl hdX11_wrongWays (by decide) rfl (by decide) rfl rfl rfl (Nat.le_of_ble_eq_true rfl) (dk dX11_rounds_0 9 rfl) ?_
    refine k_ldcw (v := (1000000000 : Int32)) C (dk dX11_rounds_0 10 rfl) (iW24 _ (List.mem_of_getElem? (i := 12) rfl)) ?_
    refine k_isub C (dk dX11_rounds_0 11 rfl) ?_
    refine k_i2l C (dk dX11_rounds_0 12 rfl) ?_
    exact k_lret E (dk dX11_rounds_0 13 rfl) h
set_option maxRecDepth 100000 in
set_option maxHeartbeats 4000000 in
theorem qX11_late (l : Launch) (g : G) (hg : gOK g) {a1 : Int32} {a2 : Int32}  {s0 σe : St} {v : Int32} (h : mX11_late a1 a2 s0 = some (v, σe)) : Mc l g yX11_late cX11_late 10 (some .int) { frames := 3, cells := 0, slots := 0, locals := 71 } [.ref (g.2.2 45), .int a1, .int a2] s0 (some (.int v)) σe := by
  refine k_enter hg pnRX11 rfl (Nat.le_of_ble_eq_true rfl) ?_
  intro WK E
  have C := kX_y E
  unfold mX11_late at h
  show WK 0 [(0, .ref (g.2.2 45)), (1, .int a1), (2, .int a2)] [] s0
  refine k_aload_n C (dk dX11_late_0 0 rfl) rfl 0 rfl ?_
  refine k_iconst (v := (0 : Int32)) C (dk dX11_late_0 1 rfl) (by decide) ?_
  refine k_putI (D := RX11) (T := TX11) (N := 39) (ci := 6) (k := 16) C iCX11 tyX11_ok nmX11 rfl (by decide) rfl (by decide) (iW3 _ (List.mem_of_getElem? (i := 20) rfl)) rfl rfl flq6_16 flp6_16 (dk dX11_late_0 2 rfl) h (fun s1 h => ?_)
  refine k_iload_n C (dk dX11_late_0 3 rfl) rfl 1 rfl ?_
  refine k_i2l C (dk dX11_late_0 4 rfl) ?_
  refine cl2_k h (fun x3 s2 hc h => ?_)
  refine k_cs (As := [.long a1.toInt64]) (st := []) C (qX11_isCell l g hg hc) (iW11 _ (List.mem_of_getElem? (i := 21) rfl)) (iW11 _ (List.mem_of_getElem? (i := 22) rfl)) (iW0 _ (List.mem_of_getElem? (i := 5) rfl)) (iW11 _ (List.mem_of_getElem? (i := 23) rfl)) rfl rfl hdX11_isCell (by decide) rfl rfl (Nat.le_of_ble_eq_true rfl) (dk dX11_late_0 5 rfl) ?_
  refine k_if_eq (tgt := 25) C (dk dX11_late_0 6 rfl) (by decide) h (fun h => ?_) (fun h => ?_)
  ·
    refine k_iconst (v := (-1 : Int32)) C (dk dX11_late_0 13 rfl) (by decide) ?_
    exact k_iret E (dk dX11_late_0 14 rfl) h
  ·
    refine k_iload_n C (dk dX11_late_0 7 rfl) rfl 2 rfl ?_
    refine k_i2l C (dk dX11_late_0 8 rfl) ?_
    refine k_lconst (v := (0 : Int64)) C (dk dX11_late_0 9 rfl) (by decide) ?_
    refine k_ldc2 (v := (8 : Int64)) C (dk dX11_late_0 10 rfl) (iW25 _ (List.mem_of_getElem? (i := 19) rfl)) ?_
    refine cl2_k h (fun x5 s4 hc h => ?_)
    refine k_cs (As := [.long a2.toInt64, .long (0 : Int64), .long (8 : Int64)]) (st := []) C (qX11_in l g hg hc) (iW8 _ (List.mem_of_getElem? (i := 16) rfl)) (iW8 _ (List.mem_of_getElem? (i := 17) rfl)) (iW0 _ (List.mem_of_getElem? (i := 5) rfl)) (iW8 _ (List.mem_of_getElem? (i := 18) rfl)) rfl rfl hdX11_in (by decide) rfl rfl (Nat.le_of_ble_eq_true rfl) (dk dX11_late_0 11 rfl) ?_
    refine k_if_ne (tgt := 27) C (dk dX11_late_0 12 rfl) (by decide) h (fun h => ?_) (fun h => ?_)
    ·
      refine k_aload_n C (dk dX11_late_0 15 rfl) rfl 0 rfl ?_
      refine k_getI (D := RX11) (T := TX11) (N := 39) (ci := 6) (k := 5) C iCX11 rfl (by decide) rfl (by decide) (iW2 _ (List.mem_of_getElem? (i := 29) rfl)) rfl (dk dX11_late_0 16 rfl) h (fun x6 h => ?_)
      refine k_if_lt (tgt := 42) C (dk dX11_late_0 17 rfl) (by decide) h (fun h => ?_) (fun h => ?_)
      ·
        refine k_bipush (v := (-3 : Int32)) C (dk dX11_late_0 22 rfl) (by decide) ?_
        exact k_iret E (dk dX11_late_0 23 rfl) h
      ·
        refine k_aload_n C (dk dX11_late_0 18 rfl) rfl 0 rfl ?_
        refine k_iload_n C (dk dX11_late_0 19 rfl) rfl 1 rfl ?_
        refine cl2_k h (fun x8 s7 hc h => ?_)
        refine k_cv (T := TX11) (N := 39) (ci := 6) (ob := 45) (As := [.int a1]) (st := []) C (qX11_isOpen l g hg hc) (iW10 _ (List.mem_of_getElem? (i := 6) rfl)) (iW10 _ (List.mem_of_getElem? (i := 7) rfl)) (iW10 _ (List.mem_of_getElem? (i := 8) rfl)) (iW0 _ (List.mem_of_getElem? (i := 5) rfl)) (iW10 _ (List.mem_of_getElem? (i := 9) rfl)) rfl rfl hdX11_isOpen (by decide) rfl (by decide) rfl rfl rfl (Nat.le_of_ble_eq_true rfl) (dk dX11_late_0 20 rfl) ?_
        refine k_if_ne (tgt := 45) C (dk dX11_late_0 21 rfl) (by decide) h (fun h => ?_) (fun h => ?_)
        ·
          refine k_lconst (v := (1 : Int64)) C (dk dX11_late_0 24 rfl) (by decide) ?_
          refine k_iload_n C (dk dX11_late_0 25 rfl) rfl 1 rfl ?_
          refine k_lshl C (dk dX11_late_0 26 rfl) ?_
          refine nmL h (fun x9 h => ?_)
          refine k_lstore_n (lv' := [(3, .long x9), (0, .ref (g.2.2 45)), (1, .int a1), (2, .int a2)]) C (dk dX11_late_0 27 rfl) rfl (by decide) rfl ?_
          refine k_iconst (v := (0 : Int32)) C (dk dX11_late_0 28 rfl) (by decide) ?_
          refine k_istore (lv' := [(5, .int (0 : Int32)), (3, .long x9), (0, .ref (g.2.2 45)), (1, .int a1), (2, .int a2)]) C (dk dX11_late_0 29 rfl) (by decide) rfl ?_
          refine kl_L (P := (fun J52 => ∀ (y10 : Int64) (y11 : Int32) (s12 : St), J52 y10 y11 s12 = some (v, σe) → WK 52 [(0, .ref (g.2.2 45)), (2, .int a2), (3, .long y10), (5, .int y11)] [] s12)) h (fun _ _ _ h => nomatch h) (fun J52 hJ52 y10 y11 s12 h => ?_) (fun J52 hJ52 h => ?_)
          ·
            unfold mX11_late_52 at h
            refine k_iload C (dk dX11_late_0 30 rfl) 3 rfl ?_
            refine k_iload_n C (dk dX11_late_0 31 rfl) rfl 1 rfl ?_
            refine k_icmp_gt (tgt := 70) C (dk dX11_late_1 0 rfl) (by decide) h (fun h => ?_) (fun h => ?_)
            ·
              refine k_iconst (v := (0 : Int32)) C (dk dX11_late_1 7 rfl) (by decide) ?_
              refine k_istore (lv' := [(5, .int (0 : Int32)), (0, .ref (g.2.2 45)), (2, .int a2), (3, .long y10)]) C (dk dX11_late_1 8 rfl) (by decide) rfl ?_
              refine k_iconst (v := (0 : Int32)) C (dk dX11_late_1 9 rfl) (by decide) ?_
              refine k_istore (lv' := [(6, .int (0 : Int32)), (5, .int (0 : Int32)), (0, .ref (g.2.2 45)), (2, .int a2), (3, .long y10)]) C (dk dX11_late_1 10 rfl) (by decide) rfl ?_
              refine kl_L (P := (fun J76 => ∀ (y13 : Int32) (y14 : Int32) (s15 : St), J76 y13 y14 s15 = some (v, σe) → WK 76 [(0, .ref (g.2.2 45)), (3, .long y10), (5, .int y13), (6, .int y14)] [] s15)) h (fun _ _ _ h => nomatch h) (fun J76 hJ76 y13 y14 s15 h => ?_) (fun J76 hJ76 h => ?_)
              ·
                unfold mX11_late_76 at h
                refine k_iload C (dk dX11_late_1 11 rfl) 3 rfl ?_
                refine k_iconst (v := (5 : Int32)) C (dk dX11_late_1 12 rfl) (by decide) ?_
                refine k_icmp_ge (tgt := 178) C (dk dX11_late_1 13 rfl) (by decide) h (fun h => ?_) (fun h => ?_)
                ·
                  refine k_iload C (dk dX11_late_2 28 rfl) 2 rfl ?_
                  exact k_iret E (dk dX11_late_2 29 rfl) h
                ·
                  refine k_aload_n C (dk dX11_late_1 14 rfl) rfl 0 rfl ?_
                  refine k_aload_n C (dk dX11_late_1 15 rfl) rfl 0 rfl ?_
                  refine k_getI (D := RX11) (T := TX11) (N := 39) (ci := 6) (k := 5) C iCX11 rfl (by decide) rfl (by decide) (iW2 _ (List.mem_of_getElem? (i := 29) rfl)) rfl (dk dX11_late_1 16 rfl) h (fun x16 h => ?_)
                  refine k_iload C (dk dX11_late_1 17 rfl) 3 rfl ?_
                  refine cl2_k h (fun x18 s17 hc h => ?_)
                  refine k_cv (T := TX11) (N := 39) (ci := 6) (ob := 45) (As := [.int x16, .int y14]) (st := []) C (qX11_goneTo l g hg hc) (iW9 _ (List.mem_of_getElem? (i := 29) rfl)) (iW10 _ (List.mem_of_getElem? (i := 0) rfl)) (iW10 _ (List.mem_of_getElem? (i := 1) rfl)) (iW0 _ (List.mem_of_getElem? (i := 5) rfl)) (iW10 _ (List.mem_of_getElem? (i := 2) rfl)) rfl rfl hdX11_goneTo (by decide) rfl (by decide) rfl rfl rfl (Nat.le_of_ble_eq_true rfl) (dk dX11_late_1 18 rfl) ?_
                  refine k_istore (lv' := [(7, .int x18), (0, .ref (g.2.2 45)), (3, .long y10), (5, .int y13), (6, .int y14)]) C (dk dX11_late_1 19 rfl) (by decide) rfl ?_
                  refine k_iload C (dk dX11_late_1 20 rfl) 0 rfl ?_
                  refine kl_J (P := (fun J104 => ∀ (y19 : Int32) (s20 : St), J104 y19 s20 = some (v, σe) → WK 104 [(0, .ref (g.2.2 45)), (3, .long y10), (5, .int y13), (6, .int y14), (7, .int x18)] [.int y19] s20)) h (fun y19 s20 h => ?_) (fun J104 hJ104 h => ?_)
                  ·
                    unfold mX11_late_104 at h
                    refine k_istore (lv' := [(8, .int y19), (0, .ref (g.2.2 45)), (3, .long y10), (5, .int y13), (6, .int y14), (7, .int x18)]) C (dk dX11_late_1 25 rfl) (by decide) rfl ?_
                    refine k_iconst (v := (0 : Int32)) C (dk dX11_late_1 26 rfl) (by decide) ?_
                    refine k_istore (lv' := [(9, .int (0 : Int32)), (8, .int y19), (0, .ref (g.2.2 45)), (3, .long y10), (5, .int y13), (6, .int y14), (7, .int x18)]) C (dk dX11_late_1 27 rfl) (by decide) rfl ?_
                    refine kl_L (P := (fun J109 => ∀ (y21 : Int32) (y22 : Int32) (s23 : St), J109 y21 y22 s23 = some (v, σe) → WK 109 [(0, .ref (g.2.2 45)), (3, .long y10), (5, .int y13), (6, .int y14), (7, .int x18), (8, .int y21), (9, .int y22)] [] s23)) h (fun _ _ _ h => nomatch h) (fun J109 hJ109 y21 y22 s23 h => ?_) (fun J109 hJ109 h => ?_)
                    ·
                      unfold mX11_late_109 at h
                      refine k_iload C (dk dX11_late_1 28 rfl) 6 rfl ?_
                      refine k_bipush (v := (36 : Int32)) C (dk dX11_late_1 29 rfl) (by decide) ?_
                      refine kl_J (P := (fun J154 => ∀ (s24 : St), J154 s24 = some (v, σe) → WK 154 [(0, .ref (g.2.2 45)), (3, .long y10), (5, .int y13), (6, .int y14), (8, .int y21)] [] s24)) h (fun s24 h => ?_) (fun J154 hJ154 h => ?_)
                      ·
                        unfold mX11_late_154 at h
                        refine k_iload C (dk dX11_late_2 16 rfl) 2 rfl ?_
                        refine k_iload C (dk dX11_late_2 17 rfl) 4 rfl ?_
                        refine kl_J (P := (fun J169 => ∀ (y25 : Int32) (s26 : St), J169 y25 s26 = some (v, σe) → WK 169 [(0, .ref (g.2.2 45)), (3, .long y10), (6, .int y14)] [.int y25, .int y13] s26)) h (fun y25 s26 h => ?_) (fun J169 hJ169 h => ?_)
                        ·
                          unfold mX11_late_169 at h
                          refine k_ior C (dk dX11_late_2 24 rfl) ?_
                          refine nmI h (fun x27 h => ?_)
                          refine k_istore (lv' := [(5, .int x27), (0, .ref (g.2.2 45)), (3, .long y10), (6, .int y14)]) C (dk dX11_late_2 25 rfl) (by decide) rfl ?_
                          refine k_iinc (lv' := [(6, .int (y14 + 1)), (5, .int x27), (0, .ref (g.2.2 45)), (3, .long y10)]) C (dk dX11_late_2 26 rfl) (j := 3) rfl rfl (by decide) rfl ?_
                          refine k_goto (tgt := 76) C (dk dX11_late_2 27 rfl) (by decide) ?_
                          refine k_sub C [2, 3, 1, 0] rfl ?_
                          exact hJ76 _ _ _ h
                        ·
                          refine k_if_eq (tgt := 168) C (dk dX11_late_2 18 rfl) (by decide) h (fun h => ?_) (fun h => ?_)
                          ·
                            refine k_iconst (v := (0 : Int32)) C (dk dX11_late_2 23 rfl) (by decide) ?_
                            refine k_sub C [0, 1, 3] rfl ?_
                            exact hJ169 _ _ h
                          ·
                            refine k_iconst (v := (1 : Int32)) C (dk dX11_late_2 19 rfl) (by decide) ?_
                            refine k_iload C (dk dX11_late_2 20 rfl) 3 rfl ?_
                            refine k_ishl C (dk dX11_late_2 21 rfl) ?_
                            refine k_goto (tgt := 169) C (dk dX11_late_2 22 rfl) (by decide) ?_
                            refine k_sub C [0, 1, 3] rfl ?_
                            exact hJ169 _ _ h
                      ·
                        refine k_icmp_ge (tgt := 154) C (dk dX11_late_1 30 rfl) (by decide) h (fun h => ?_) (fun h => ?_)
                        ·
                          refine k_sub C [0, 1, 2, 3, 5] rfl ?_
                          exact hJ154 _ h
                        ·
                          refine k_iload C (dk dX11_late_1 31 rfl) 5 rfl ?_
                          refine k_if_eq (tgt := 154) C (dk dX11_late_2 0 rfl) (by decide) h (fun h => ?_) (fun h => ?_)
                          ·
                            refine k_sub C [0, 1, 2, 3, 5] rfl ?_
                            exact hJ154 _ h
                          ·
                            refine k_lload_n C (dk dX11_late_2 1 rfl) rfl 1 rfl ?_
                            refine k_iload C (dk dX11_late_2 2 rfl) 6 rfl ?_
                            refine cl2_k h (fun x29 s28 hc h => ?_)
                            refine k_cs (As := [.long y10, .int y22]) (st := []) C (qX11_isOn l g hg hc) (iW15 _ (List.mem_of_getElem? (i := 12) rfl)) (iW15 _ (List.mem_of_getElem? (i := 13) rfl)) (iW0 _ (List.mem_of_getElem? (i := 5) rfl)) (iW15 _ (List.mem_of_getElem? (i := 14) rfl)) rfl rfl hdX11_isOn (by decide) rfl rfl (Nat.le_of_ble_eq_true rfl) (dk dX11_late_2 3 rfl) ?_
                            refine kl_J (P := (fun J146 => ∀ (y30 : Int32) (s31 : St), J146 y30 s31 = some (v, σe) → WK 146 [(0, .ref (g.2.2 45)), (3, .long y10), (5, .int y13), (6, .int y14), (7, .int x18), (9, .int y22)] [.int y30] s31)) h (fun y30 s31 h => ?_) (fun J146 hJ146 h => ?_)
                            ·
                              unfold mX11_late_146 at h
                              refine k_istore (lv' := [(8, .int y30), (0, .ref (g.2.2 45)), (3, .long y10), (5, .int y13), (6, .int y14), (7, .int x18), (9, .int y22)]) C (dk dX11_late_2 13 rfl) (by decide) rfl ?_
                              refine k_iinc (lv' := [(9, .int (y22 + 1)), (8, .int y30), (0, .ref (g.2.2 45)), (3, .long y10), (5, .int y13), (6, .int y14), (7, .int x18)]) C (dk dX11_late_2 14 rfl) (j := 6) rfl rfl (by decide) rfl ?_
                              refine k_goto (tgt := 109) C (dk dX11_late_2 15 rfl) (by decide) ?_
                              refine k_sub C [2, 3, 4, 5, 6, 1, 0] rfl ?_
                              exact hJ109 _ _ _ h
                            ·
                              refine kl_J (P := (fun J141 => ∀ (s32 : St), J141 s32 = some (v, σe) → WK 141 [(0, .ref (g.2.2 45)), (3, .long y10), (5, .int y13), (6, .int y14), (7, .int x18), (9, .int y22)] [] s32)) h (fun s32 h => ?_) (fun J141 hJ141 h => ?_)
                              ·
                                unfold mX11_late_141 at h
                                refine k_iconst (v := (1 : Int32)) C (dk dX11_late_2 10 rfl) (by decide) ?_
                                refine k_goto (tgt := 146) C (dk dX11_late_2 11 rfl) (by decide) ?_
                                exact hJ146 _ _ h
                              ·
                                refine k_if_eq (tgt := 141) C (dk dX11_late_2 4 rfl) (by decide) h (fun h => ?_) (fun h => ?_)
                                ·
                                  refine k_sub C [0, 1, 2, 3, 4, 6] rfl ?_
                                  exact hJ141 _ h
                                ·
                                  refine k_aload_n C (dk dX11_late_2 5 rfl) rfl 0 rfl ?_
                                  refine k_iload C (dk dX11_late_2 6 rfl) 4 rfl ?_
                                  refine k_iload C (dk dX11_late_2 7 rfl) 6 rfl ?_
                                  refine cl2_k h (fun x34 s33 hc h => ?_)
                                  refine k_cv (T := TX11) (N := 39) (ci := 6) (ob := 45) (As := [.int x18, .int y22]) (st := []) C (qX11_isOff l g hg hc) (iW17 _ (List.mem_of_getElem? (i := 12) rfl)) (iW17 _ (List.mem_of_getElem? (i := 13) rfl)) (iW17 _ (List.mem_of_getElem? (i := 14) rfl)) (iW0 _ (List.mem_of_getElem? (i := 5) rfl)) (iW17 _ (List.mem_of_getElem? (i := 15) rfl)) rfl rfl hdX11_isOff (by decide) rfl (by decide) rfl rfl rfl (Nat.le_of_ble_eq_true rfl) (dk dX11_late_2 8 rfl) ?_
                                  refine k_if_ne (tgt := 145) C (dk dX11_late_2 9 rfl) (by decide) h (fun h => ?_) (fun h => ?_)
                                  ·
                                    refine k_iconst (v := (0 : Int32)) C (dk dX11_late_2 12 rfl) (by decide) ?_
                                    refine k_sub C [0, 1, 2, 3, 4, 6] rfl ?_
                                    exact hJ146 _ _ h
                                  ·
                                    refine k_sub C [0, 1, 2, 3, 4, 6] rfl ?_
                                    exact hJ141 _ h
                    ·
                      refine k_sub C [2, 3, 4, 5, 6, 1, 0] rfl ?_
                      exact hJ109 _ _ _ h
                  ·
                    refine k_if_lt (tgt := 103) C (dk dX11_late_1 21 rfl) (by decide) h (fun h => ?_) (fun h => ?_)
                    ·
                      refine k_iconst (v := (0 : Int32)) C (dk dX11_late_1 24 rfl) (by decide) ?_
                      refine k_sub C [1, 2, 3, 4, 0] rfl ?_
                      exact hJ104 _ _ h
                    ·
                      refine k_iconst (v := (1 : Int32)) C (dk dX11_late_1 22 rfl) (by decide) ?_
                      refine k_goto (tgt := 104) C (dk dX11_late_1 23 rfl) (by decide) ?_
                      refine k_sub C [1, 2, 3, 4, 0] rfl ?_
                      exact hJ104 _ _ h
              ·
                refine k_sub C [2, 4, 1, 0] rfl ?_
                exact hJ76 _ _ _ h
            ·
              refine k_aload_n C (dk dX11_late_1 1 rfl) rfl 0 rfl ?_
              refine k_lload_n C (dk dX11_late_1 2 rfl) rfl 2 rfl ?_
              refine cl2_k h (fun x36 s35 hc h => ?_)
              refine k_cv (T := TX11) (N := 39) (ci := 6) (ob := 45) (As := [.long y10]) (st := []) C (qX11_goOn l g hg hc) (iW15 _ (List.mem_of_getElem? (i := 15) rfl)) (iW15 _ (List.mem_of_getElem? (i := 16) rfl)) (iW15 _ (List.mem_of_getElem? (i := 17) rfl)) (iW0 _ (List.mem_of_getElem? (i := 5) rfl)) (iW15 _ (List.mem_of_getElem? (i := 18) rfl)) rfl rfl hdX11_goOn (by decide) rfl (by decide) rfl rfl rfl (Nat.le_of_ble_eq_true rfl) (dk dX11_late_1 3 rfl) ?_
              refine k_lstore_n (lv' := [(3, .long x36), (0, .ref (g.2.2 45)), (2, .int a2), (5, .int y11)]) C (dk dX11_late_1 4 rfl) rfl (by decide) rfl ?_
              refine k_iinc (lv' := [(5, .int (y11 + 1)), (3, .long x36), (0, .ref (g.2.2 45)), (2, .int a2)]) C (dk dX11_late_1 5 rfl) (j := 3) rfl rfl (by decide) rfl ?_
              refine k_goto (tgt := 52) C (dk dX11_late_1 6 rfl) (by decide) ?_
              refine k_sub C [2, 3, 1, 0] rfl ?_
              exact hJ52 _ _ _ h
          ·
            refine k_sub C [2, 4, 1, 0] rfl ?_
            exact hJ52 _ _ _ h
        ·
          refine k_bipush (v := (-3 : Int32)) C (dk dX11_late_0 22 rfl) (by decide) ?_
          exact k_iret E (dk dX11_late_0 23 rfl) h
    ·
      refine k_iconst (v := (-1 : Int32)) C (dk dX11_late_0 13 rfl) (by decide) ?_
      exact k_iret E (dk dX11_late_0 14 rfl) h
