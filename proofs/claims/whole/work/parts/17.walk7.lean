set_option maxRecDepth 100000 in
set_option maxHeartbeats 4000000 in
theorem qX11_land (l : Launch) (g : G) (hg : gOK g) {a1 : Int32}  {s0 σe : St} {v : Int32} (h : mX11_land a1 s0 = some (v, σe)) : Mc l g yX11_land cX11_land 4 (some .int) { frames := 4, cells := 0, slots := 0, locals := 91 } [.ref (g.2.2 45), .int a1] s0 (some (.int v)) σe := by
  refine k_enter hg pnRX11 rfl (Nat.le_of_ble_eq_true rfl) ?_
  intro WK E
  have C := kX_y E
  unfold mX11_land at h
  show WK 0 [(0, .ref (g.2.2 45)), (1, .int a1)] [] s0
  refine k_aload_n C (dk dX11_land_0 0 rfl) rfl 0 rfl ?_
  refine k_iconst (v := (0 : Int32)) C (dk dX11_land_0 1 rfl) (by decide) ?_
  refine k_putI (D := RX11) (T := TX11) (N := 39) (ci := 6) (k := 16) C iCX11 tyX11_ok nmX11 rfl (by decide) rfl (by decide) (iW3 _ (List.mem_of_getElem? (i := 20) rfl)) rfl rfl flq6_16 flp6_16 (dk dX11_land_0 2 rfl) h (fun s1 h => ?_)
  refine k_aload_n C (dk dX11_land_0 3 rfl) rfl 0 rfl ?_
  refine k_iload_n C (dk dX11_land_0 4 rfl) rfl 1 rfl ?_
  refine cl2_k h (fun x3 s2 hc h => ?_)
  refine k_cv (T := TX11) (N := 39) (ci := 6) (ob := 45) (As := [.int a1]) (st := []) C (qX11_wrongRow l g hg hc) (iW8 _ (List.mem_of_getElem? (i := 11) rfl)) (iW8 _ (List.mem_of_getElem? (i := 12) rfl)) (iW8 _ (List.mem_of_getElem? (i := 13) rfl)) (iW0 _ (List.mem_of_getElem? (i := 5) rfl)) (iW8 _ (List.mem_of_getElem? (i := 14) rfl)) rfl rfl hdX11_wrongRow (by decide) rfl (by decide) rfl rfl rfl (Nat.le_of_ble_eq_true rfl) (dk dX11_land_0 5 rfl) ?_
  refine k_istore_n (lv' := [(2, .int x3), (0, .ref (g.2.2 45)), (1, .int a1)]) C (dk dX11_land_0 6 rfl) rfl (by decide) rfl ?_
  refine k_iload_n C (dk dX11_land_0 7 rfl) rfl 0 rfl ?_
  refine kl_J (P := (fun J30 => ∀ (y4 : Int32) (s5 : St), J30 y4 s5 = some (v, σe) → WK 30 [(0, .ref (g.2.2 45)), (1, .int a1)] [.int y4] s5)) h (fun y4 s5 h => ?_) (fun J30 hJ30 h => ?_)
  ·
    unfold mX11_land_30 at h
    refine k_istore_n (lv' := [(2, .int y4), (0, .ref (g.2.2 45)), (1, .int a1)]) C (dk dX11_land_0 17 rfl) rfl (by decide) rfl ?_
    refine k_iload_n C (dk dX11_land_0 18 rfl) rfl 0 rfl ?_
    refine k_if_ge (tgt := 37) C (dk dX11_land_0 19 rfl) (by decide) h (fun h => ?_) (fun h => ?_)
    ·
      refine k_aload_n C (dk dX11_land_0 22 rfl) rfl 1 rfl ?_
      refine k_iload_n C (dk dX11_land_0 23 rfl) rfl 2 rfl ?_
      refine k_putI (D := RX11) (T := TX11) (N := 39) (ci := 6) (k := 18) C iCX11 tyX11_ok nmX11 rfl (by decide) rfl (by decide) (iW8 _ (List.mem_of_getElem? (i := 7) rfl)) rfl rfl flq6_18 flp6_18 (dk dX11_land_0 24 rfl) h (fun s6 h => ?_)
      refine k_aload_n C (dk dX11_land_0 25 rfl) rfl 1 rfl ?_
      refine k_iconst (v := (0 : Int32)) C (dk dX11_land_0 26 rfl) (by decide) ?_
      refine k_putI (D := RX11) (T := TX11) (N := 39) (ci := 6) (k := 19) C iCX11 tyX11_ok nmX11 rfl (by decide) rfl (by decide) (iW8 _ (List.mem_of_getElem? (i := 8) rfl)) rfl rfl flq6_19 flp6_19 (dk dX11_land_0 27 rfl) h (fun s7 h => ?_)
      refine k_aload_n C (dk dX11_land_0 28 rfl) rfl 1 rfl ?_
      refine k_iconst (v := (0 : Int32)) C (dk dX11_land_0 29 rfl) (by decide) ?_
      refine k_putZ (D := RX11) (T := TX11) (N := 39) (ci := 6) (k := 20) C iCX11 tyX11_ok nmX11 rfl (by decide) rfl (by decide) (iW8 _ (List.mem_of_getElem? (i := 9) rfl)) rfl rfl flq6_20 flp6_20 (dk dX11_land_0 30 rfl) h (fun s8 h => ?_)
      refine k_aload_n C (dk dX11_land_0 31 rfl) rfl 1 rfl ?_
      refine k_iconst (v := (0 : Int32)) C (dk dX11_land_1 0 rfl) (by decide) ?_
      refine k_putI (D := RX11) (T := TX11) (N := 39) (ci := 6) (k := 21) C iCX11 tyX11_ok nmX11 rfl (by decide) rfl (by decide) (iW8 _ (List.mem_of_getElem? (i := 10) rfl)) rfl rfl flq6_21 flp6_21 (dk dX11_land_1 1 rfl) h (fun s9 h => ?_)
      refine kl_L (P := (fun J57 => ∀ (s10 : St), J57 s10 = some (v, σe) → WK 57 [(0, .ref (g.2.2 45)), (1, .int a1)] [] s10)) h (fun _ h => nomatch h) (fun J57 hJ57 s10 h => ?_) (fun J57 hJ57 h => ?_)
      ·
        unfold mX11_land_57 at h
        refine k_aload_n C (dk dX11_land_1 2 rfl) rfl 0 rfl ?_
        refine k_getI (D := RX11) (T := TX11) (N := 39) (ci := 6) (k := 20) C iCX11 rfl (by decide) rfl (by decide) (iW8 _ (List.mem_of_getElem? (i := 9) rfl)) rfl (dk dX11_land_1 3 rfl) h (fun x11 h => ?_)
        refine kl_J (P := (fun J91 => ∀ (s12 : St), J91 s12 = some (v, σe) → WK 91 [(0, .ref (g.2.2 45))] [] s12)) h (fun s12 h => ?_) (fun J91 hJ91 h => ?_)
        ·
          unfold mX11_land_91 at h
          refine k_aload_n C (dk dX11_land_1 18 rfl) rfl 0 rfl ?_
          refine k_getI (D := RX11) (T := TX11) (N := 39) (ci := 6) (k := 20) C iCX11 rfl (by decide) rfl (by decide) (iW8 _ (List.mem_of_getElem? (i := 9) rfl)) rfl (dk dX11_land_1 19 rfl) h (fun x13 h => ?_)
          refine k_if_eq (tgt := 107) C (dk dX11_land_1 20 rfl) (by decide) h (fun h => ?_) (fun h => ?_)
          ·
            refine k_aload_n C (dk dX11_land_1 26 rfl) rfl 0 rfl ?_
            refine k_aload_n C (dk dX11_land_1 27 rfl) rfl 0 rfl ?_
            refine k_getR (q := 57) (D := RX11) (T := TX11) (N := 39) (ci := 6) (k := 25) C iCX11 rfl (by decide) rfl (by decide) (iW3 _ (List.mem_of_getElem? (i := 11) rfl)) rfl (dk dX11_land_1 28 rfl) ?_
            refine k_iconst (v := (1 : Int32)) C (dk dX11_land_1 29 rfl) (by decide) ?_
            refine cl1_k h (fun s14 hc h => ?_)
            refine k_cv (T := TX11) (N := 39) (ci := 6) (ob := 45) (As := [.ref (g.2.2 57), .int (1 : Int32)]) (st := []) C (qX11_carryAll l g hg (by decide) hc) (iW9 _ (List.mem_of_getElem? (i := 6) rfl)) (iW9 _ (List.mem_of_getElem? (i := 7) rfl)) (iW9 _ (List.mem_of_getElem? (i := 8) rfl)) (iW0 _ (List.mem_of_getElem? (i := 5) rfl)) (iW9 _ (List.mem_of_getElem? (i := 9) rfl)) rfl rfl hdX11_carryAll (by decide) rfl (by decide) rfl rfl rfl (Nat.le_of_ble_eq_true rfl) (dk dX11_land_1 30 rfl) ?_
            refine k_iconst (v := (0 : Int32)) C (dk dX11_land_1 31 rfl) (by decide) ?_
            refine k_istore_n (lv' := [(3, .int (0 : Int32)), (0, .ref (g.2.2 45))]) C (dk dX11_land_2 0 rfl) rfl (by decide) rfl ?_
            refine kl_L (P := (fun J118 => ∀ (y15 : Int32) (s16 : St), J118 y15 s16 = some (v, σe) → WK 118 [(0, .ref (g.2.2 45)), (3, .int y15)] [] s16)) h (fun _ _ h => nomatch h) (fun J118 hJ118 y15 s16 h => ?_) (fun J118 hJ118 h => ?_)
            ·
              unfold mX11_land_118 at h
              refine k_iload_n C (dk dX11_land_2 1 rfl) rfl 1 rfl ?_
              refine k_aload_n C (dk dX11_land_2 2 rfl) rfl 0 rfl ?_
              refine k_getI (D := RX11) (T := TX11) (N := 39) (ci := 6) (k := 21) C iCX11 rfl (by decide) rfl (by decide) (iW8 _ (List.mem_of_getElem? (i := 10) rfl)) rfl (dk dX11_land_2 3 rfl) h (fun x17 h => ?_)
              refine k_icmp_ge (tgt := 160) C (dk dX11_land_2 4 rfl) (by decide) h (fun h => ?_) (fun h => ?_)
              ·
                refine k_aload_n C (dk dX11_land_2 23 rfl) rfl 0 rfl ?_
                refine k_getI (D := RX11) (T := TX11) (N := 39) (ci := 6) (k := 21) C iCX11 rfl (by decide) rfl (by decide) (iW8 _ (List.mem_of_getElem? (i := 10) rfl)) rfl (dk dX11_land_2 24 rfl) h (fun x18 h => ?_)
                exact k_iret E (dk dX11_land_2 25 rfl) h
              ·
                refine k_aload_n C (dk dX11_land_2 5 rfl) rfl 0 rfl ?_
                refine k_iload_n C (dk dX11_land_2 6 rfl) rfl 1 rfl ?_
                refine cl2_k h (fun x20 s19 hc h => ?_)
                refine k_cv (T := TX11) (N := 39) (ci := 6) (ob := 45) (As := [.int y15]) (st := []) C (qX11_comes l g hg hc) (iW9 _ (List.mem_of_getElem? (i := 21) rfl)) (iW9 _ (List.mem_of_getElem? (i := 22) rfl)) (iW9 _ (List.mem_of_getElem? (i := 23) rfl)) (iW0 _ (List.mem_of_getElem? (i := 5) rfl)) (iW9 _ (List.mem_of_getElem? (i := 24) rfl)) rfl rfl hdX11_comes (by decide) rfl (by decide) rfl rfl rfl (Nat.le_of_ble_eq_true rfl) (dk dX11_land_2 7 rfl) ?_
                refine k_if_ne (tgt := 154) C (dk dX11_land_2 8 rfl) (by decide) h (fun h => ?_) (fun h => ?_)
                ·
                  refine k_iinc (lv' := [(3, .int (y15 + 1)), (0, .ref (g.2.2 45))]) C (dk dX11_land_2 21 rfl) (j := 1) rfl rfl (by decide) rfl ?_
                  refine k_goto (tgt := 118) C (dk dX11_land_2 22 rfl) (by decide) ?_
                  refine k_sub C [1, 0] rfl ?_
                  exact hJ118 _ _ h
                ·
                  refine k_aload_n C (dk dX11_land_2 9 rfl) rfl 0 rfl ?_
                  refine k_aload_n C (dk dX11_land_2 10 rfl) rfl 0 rfl ?_
                  refine k_getR (q := 57) (D := RX11) (T := TX11) (N := 39) (ci := 6) (k := 25) C iCX11 rfl (by decide) rfl (by decide) (iW3 _ (List.mem_of_getElem? (i := 11) rfl)) rfl (dk dX11_land_2 11 rfl) ?_
                  refine k_iconst (v := (0 : Int32)) C (dk dX11_land_2 12 rfl) (by decide) ?_
                  refine cl1_k h (fun s21 hc h => ?_)
                  refine k_cv (T := TX11) (N := 39) (ci := 6) (ob := 45) (As := [.ref (g.2.2 57), .int (0 : Int32)]) (st := []) C (qX11_carryAll l g hg (by decide) hc) (iW9 _ (List.mem_of_getElem? (i := 6) rfl)) (iW9 _ (List.mem_of_getElem? (i := 7) rfl)) (iW9 _ (List.mem_of_getElem? (i := 8) rfl)) (iW0 _ (List.mem_of_getElem? (i := 5) rfl)) (iW9 _ (List.mem_of_getElem? (i := 9) rfl)) rfl rfl hdX11_carryAll (by decide) rfl (by decide) rfl rfl rfl (Nat.le_of_ble_eq_true rfl) (dk dX11_land_2 13 rfl) ?_
                  refine k_sipush (v := (-2000 : Int32)) C (dk dX11_land_2 14 rfl) (by decide) ?_
                  refine k_aload_n C (dk dX11_land_2 15 rfl) rfl 0 rfl ?_
                  refine k_getR (q := 54) (D := RX11) (T := TX11) (N := 39) (ci := 6) (k := 22) C iCX11 rfl (by decide) rfl (by decide) (iW3 _ (List.mem_of_getElem? (i := 8) rfl)) rfl (dk dX11_land_2 16 rfl) ?_
                  refine k_iload_n C (dk dX11_land_2 17 rfl) rfl 1 rfl ?_
                  refine k_iald C rfl rfl (dk dX11_land_2 18 rfl) h (fun x22 h => ?_)
                  refine k_isub C (dk dX11_land_2 19 rfl) ?_
                  exact k_iret E (dk dX11_land_2 20 rfl) h
            ·
              refine k_sub C [1, 0] rfl ?_
              exact hJ118 _ _ h
          ·
            refine k_sipush (v := (-1000 : Int32)) C (dk dX11_land_1 21 rfl) (by decide) ?_
            refine k_aload_n C (dk dX11_land_1 22 rfl) rfl 0 rfl ?_
            refine k_getI (D := RX11) (T := TX11) (N := 39) (ci := 6) (k := 19) C iCX11 rfl (by decide) rfl (by decide) (iW8 _ (List.mem_of_getElem? (i := 8) rfl)) rfl (dk dX11_land_1 23 rfl) h (fun x23 h => ?_)
            refine k_isub C (dk dX11_land_1 24 rfl) ?_
            exact k_iret E (dk dX11_land_1 25 rfl) h
        ·
          refine k_if_ne (tgt := 91) C (dk dX11_land_1 4 rfl) (by decide) h (fun h => ?_) (fun h => ?_)
          ·
            refine k_sub C [0] rfl ?_
            exact hJ91 _ h
          ·
            refine k_aload_n C (dk dX11_land_1 5 rfl) rfl 0 rfl ?_
            refine k_getI (D := RX11) (T := TX11) (N := 39) (ci := 6) (k := 21) C iCX11 rfl (by decide) rfl (by decide) (iW8 _ (List.mem_of_getElem? (i := 10) rfl)) rfl (dk dX11_land_1 6 rfl) h (fun x24 h => ?_)
            refine kl_J (P := (fun J84 => ∀ (s25 : St), J84 s25 = some (v, σe) → WK 84 [(0, .ref (g.2.2 45)), (1, .int a1)] [] s25)) h (fun s25 h => ?_) (fun J84 hJ84 h => ?_)
            ·
              unfold mX11_land_84 at h
              refine k_aload_n C (dk dX11_land_1 15 rfl) rfl 0 rfl ?_
              refine cl1_k h (fun s26 hc h => ?_)
              refine k_cv (T := TX11) (N := 39) (ci := 6) (ob := 45) (As := []) (st := []) C (qX11_readStatement l g hg hc) (iW8 _ (List.mem_of_getElem? (i := 19) rfl)) (iW8 _ (List.mem_of_getElem? (i := 20) rfl)) (iW8 _ (List.mem_of_getElem? (i := 21) rfl)) (iW0 _ (List.mem_of_getElem? (i := 5) rfl)) (iW8 _ (List.mem_of_getElem? (i := 22) rfl)) rfl rfl hdX11_readStatement (by decide) rfl (by decide) rfl rfl rfl (Nat.le_of_ble_eq_true rfl) (dk dX11_land_1 16 rfl) ?_
              refine k_goto (tgt := 57) C (dk dX11_land_1 17 rfl) (by decide) ?_
              exact hJ57 _ h
            ·
              refine k_if_eq (tgt := 84) C (dk dX11_land_1 7 rfl) (by decide) h (fun h => ?_) (fun h => ?_)
              ·
                exact hJ84 _ h
              ·
                refine k_aload_n C (dk dX11_land_1 8 rfl) rfl 0 rfl ?_
                refine k_getI (D := RX11) (T := TX11) (N := 39) (ci := 6) (k := 19) C iCX11 rfl (by decide) rfl (by decide) (iW8 _ (List.mem_of_getElem? (i := 8) rfl)) rfl (dk dX11_land_1 9 rfl) h (fun x27 h => ?_)
                refine k_aload_n C (dk dX11_land_1 10 rfl) rfl 0 rfl ?_
                refine k_getR (q := 52) (D := RX11) (T := TX11) (N := 39) (ci := 6) (k := 14) C iCX11 rfl (by decide) rfl (by decide) (iW3 _ (List.mem_of_getElem? (i := 5) rfl)) rfl (dk dX11_land_1 11 rfl) ?_
                refine k_iload_n C (dk dX11_land_1 12 rfl) rfl 1 rfl ?_
                refine k_iald C rfl rfl (dk dX11_land_1 13 rfl) h (fun x28 h => ?_)
                refine k_icmp_ge (tgt := 91) C (dk dX11_land_1 14 rfl) (by decide) h (fun h => ?_) (fun h => ?_)
                ·
                  refine k_sub C [0] rfl ?_
                  exact hJ91 _ h
                ·
                  exact hJ84 _ h
      ·
        refine k_sub C [1, 2] rfl ?_
        exact hJ57 _ h
    ·
      refine k_iload_n C (dk dX11_land_0 20 rfl) rfl 0 rfl ?_
      exact k_iret E (dk dX11_land_0 21 rfl) h
  ·
    refine kl_J (P := (fun J29 => ∀ (s29 : St), J29 s29 = some (v, σe) → WK 29 [(0, .ref (g.2.2 45)), (1, .int a1), (2, .int x3)] [] s29)) h (fun s29 h => ?_) (fun J29 hJ29 h => ?_)
    ·
      unfold mX11_land_29 at h
      refine k_iload_n C (dk dX11_land_0 16 rfl) rfl 2 rfl ?_
      refine k_sub C [0, 1] rfl ?_
      exact hJ30 _ _ h
    ·
      refine k_if_ne (tgt := 29) C (dk dX11_land_0 8 rfl) (by decide) h (fun h => ?_) (fun h => ?_)
      ·
        refine k_sub C [1, 2, 0] rfl ?_
        exact hJ29 _ h
      ·
        refine k_aload_n C (dk dX11_land_0 9 rfl) rfl 1 rfl ?_
        refine k_getR (q := 51) (D := RX11) (T := TX11) (N := 39) (ci := 6) (k := 13) C iCX11 rfl (by decide) rfl (by decide) (iW3 _ (List.mem_of_getElem? (i := 4) rfl)) rfl (dk dX11_land_0 10 rfl) ?_
        refine k_iload_n C (dk dX11_land_0 11 rfl) rfl 2 rfl ?_
        refine k_iald C rfl rfl (dk dX11_land_0 12 rfl) h (fun x30 h => ?_)
        refine k_if_eq (tgt := 29) C (dk dX11_land_0 13 rfl) (by decide) h (fun h => ?_) (fun h => ?_)
        ·
          refine k_sub C [1, 2, 0] rfl ?_
          exact hJ29 _ h
        ·
          refine k_bipush (v := (-12 : Int32)) C (dk dX11_land_0 14 rfl) (by decide) ?_
          refine k_goto (tgt := 30) C (dk dX11_land_0 15 rfl) (by decide) ?_
          refine k_sub C [1, 2] rfl ?_
          exact hJ30 _ _ h
set_option maxRecDepth 100000 in
set_option maxHeartbeats 4000000 in
theorem qX11_image (l : Launch) (g : G) (hg : gOK g)   {s0 σe : St} {v : Int32} (h : mX11_image s0 = some (v, σe)) : Mc l g yX11_image cX11_image 1 (some .int) { frames := 2, cells := 0, slots := 0, locals := 44 } [.ref (g.2.2 45)] s0 (some (.int v)) σe := by
  refine k_enter hg pnRX11 rfl (Nat.le_of_ble_eq_true rfl) ?_
  intro WK E
  have C := kX_y E
  unfold mX11_image at h
  show WK 0 [(0, .ref (g.2.2 45))] [] s0
  refine k_aload_n C (dk dX11_image_0 0 rfl) rfl 0 rfl ?_
  refine k_iconst (v := (0 : Int32)) C (dk dX11_image_0 1 rfl) (by decide) ?_
  refine k_putI (D := RX11) (T := TX11) (N := 39) (ci := 6) (k := 16) C iCX11 tyX11_ok nmX11 rfl (by decide) rfl (by decide) (iW3 _ (List.mem_of_getElem? (i := 20) rfl)) rfl rfl flq6_16 flp6_16 (dk dX11_image_0 2 rfl) h (fun s1 h => ?_)
  refine k_aload_n C (dk dX11_image_0 3 rfl) rfl 0 rfl ?_
  refine k_iconst (v := (1 : Int32)) C (dk dX11_image_0 4 rfl) (by decide) ?_
  refine k_putZ (D := RX11) (T := TX11) (N := 39) (ci := 6) (k := 27) C iCX11 tyX11_ok nmX11 rfl (by decide) rfl (by decide) (iW34 _ (List.mem_of_getElem? (i := 21) rfl)) rfl rfl flq6_27 flp6_27 (dk dX11_image_0 5 rfl) h (fun s2 h => ?_)
  refine k_aload_n C (dk dX11_image_0 6 rfl) rfl 0 rfl ?_
  refine k_aload_n C (dk dX11_image_0 7 rfl) rfl 0 rfl ?_
  refine k_getR (q := 58) (D := RX11) (T := TX11) (N := 39) (ci := 6) (k := 26) C iCX11 rfl (by decide) rfl (by decide) (iW3 _ (List.mem_of_getElem? (i := 12) rfl)) rfl (dk dX11_image_0 8 rfl) ?_
  refine k_iconst (v := (1 : Int32)) C (dk dX11_image_0 9 rfl) (by decide) ?_
  refine cl1_k h (fun s3 hc h => ?_)
  refine k_cv (T := TX11) (N := 39) (ci := 6) (ob := 45) (As := [.ref (g.2.2 58), .int (1 : Int32)]) (st := []) C (qX11_carryAll l g hg (by decide) hc) (iW9 _ (List.mem_of_getElem? (i := 6) rfl)) (iW9 _ (List.mem_of_getElem? (i := 7) rfl)) (iW9 _ (List.mem_of_getElem? (i := 8) rfl)) (iW0 _ (List.mem_of_getElem? (i := 5) rfl)) (iW9 _ (List.mem_of_getElem? (i := 9) rfl)) rfl rfl hdX11_carryAll (by decide) rfl (by decide) rfl rfl rfl (Nat.le_of_ble_eq_true rfl) (dk dX11_image_0 10 rfl) ?_
  refine k_aload_n C (dk dX11_image_0 11 rfl) rfl 0 rfl ?_
  refine k_getI (D := RX11) (T := TX11) (N := 39) (ci := 6) (k := 7) C iCX11 rfl (by decide) rfl (by decide) (iW9 _ (List.mem_of_getElem? (i := 14) rfl)) rfl (dk dX11_image_0 12 rfl) h (fun x4 h => ?_)
  exact k_iret E (dk dX11_image_0 13 rfl) h
set_option maxRecDepth 100000 in
set_option maxHeartbeats 4000000 in
theorem qX11_restore (l : Launch) (g : G) (hg : gOK g)   {s0 σe : St} {v : Int32} (h : mX11_restore s0 = some (v, σe)) : Mc l g yX11_restore cX11_restore 1 (some .int) { frames := 2, cells := 0, slots := 0, locals := 44 } [.ref (g.2.2 45)] s0 (some (.int v)) σe := by
  refine k_enter hg pnRX11 rfl (Nat.le_of_ble_eq_true rfl) ?_
  intro WK E
  have C := kX_y E
  unfold mX11_restore at h
  show WK 0 [(0, .ref (g.2.2 45))] [] s0
  refine k_aload_n C (dk dX11_restore_0 0 rfl) rfl 0 rfl ?_
  refine k_iconst (v := (0 : Int32)) C (dk dX11_restore_0 1 rfl) (by decide) ?_
  refine k_putI (D := RX11) (T := TX11) (N := 39) (ci := 6) (k := 16) C iCX11 tyX11_ok nmX11 rfl (by decide) rfl (by decide) (iW3 _ (List.mem_of_getElem? (i := 20) rfl)) rfl rfl flq6_16 flp6_16 (dk dX11_restore_0 2 rfl) h (fun s1 h => ?_)
  refine k_aload_n C (dk dX11_restore_0 3 rfl) rfl 0 rfl ?_
  refine k_getI (D := RX11) (T := TX11) (N := 39) (ci := 6) (k := 27) C iCX11 rfl (by decide) rfl (by decide) (iW34 _ (List.mem_of_getElem? (i := 21) rfl)) rfl (dk dX11_restore_0 4 rfl) h (fun x2 h => ?_)
  refine k_if_ne (tgt := 15) C (dk dX11_restore_0 5 rfl) (by decide) h (fun h => ?_) (fun h => ?_)
  ·
    refine k_aload_n C (dk dX11_restore_0 8 rfl) rfl 0 rfl ?_
    refine k_aload_n C (dk dX11_restore_0 9 rfl) rfl 0 rfl ?_
    refine k_getR (q := 58) (D := RX11) (T := TX11) (N := 39) (ci := 6) (k := 26) C iCX11 rfl (by decide) rfl (by decide) (iW3 _ (List.mem_of_getElem? (i := 12) rfl)) rfl (dk dX11_restore_0 10 rfl) ?_
    refine k_iconst (v := (0 : Int32)) C (dk dX11_restore_0 11 rfl) (by decide) ?_
    refine cl1_k h (fun s3 hc h => ?_)
    refine k_cv (T := TX11) (N := 39) (ci := 6) (ob := 45) (As := [.ref (g.2.2 58), .int (0 : Int32)]) (st := []) C (qX11_carryAll l g hg (by decide) hc) (iW9 _ (List.mem_of_getElem? (i := 6) rfl)) (iW9 _ (List.mem_of_getElem? (i := 7) rfl)) (iW9 _ (List.mem_of_getElem? (i := 8) rfl)) (iW0 _ (List.mem_of_getElem? (i := 5) rfl)) (iW9 _ (List.mem_of_getElem? (i := 9) rfl)) rfl rfl hdX11_carryAll (by decide) rfl (by decide) rfl rfl rfl (Nat.le_of_ble_eq_true rfl) (dk dX11_restore_0 12 rfl) ?_
    refine k_aload_n C (dk dX11_restore_0 13 rfl) rfl 0 rfl ?_
    refine k_getI (D := RX11) (T := TX11) (N := 39) (ci := 6) (k := 7) C iCX11 rfl (by decide) rfl (by decide) (iW9 _ (List.mem_of_getElem? (i := 14) rfl)) rfl (dk dX11_restore_0 14 rfl) h (fun x4 h => ?_)
    exact k_iret E (dk dX11_restore_0 15 rfl) h
  ·
    refine k_bipush (v := (-3 : Int32)) C (dk dX11_restore_0 6 rfl) (by decide) ?_
    exact k_iret E (dk dX11_restore_0 7 rfl) h
set_option maxRecDepth 100000 in
set_option maxHeartbeats 4000000 in
theorem qX11_ground (l : Launch) (g : G) (hg : gOK g) {a1 : Int32} {a2 : Int32}  {s0 σe : St} {v : Int32} (h : mX11_ground a1 a2 s0 = some (v, σe)) : Mc l g yX11_ground cX11_ground 3 (some .int) { frames := 2, cells := 0, slots := 0, locals := 46 } [.ref (g.2.2 45), .int a1, .int a2] s0 (some (.int v)) σe := by
  refine k_enter hg pnRX11 rfl (Nat.le_of_ble_eq_true rfl) ?_
  intro WK E
  have C := kX_y E
  unfold mX11_ground at h
  show WK 0 [(0, .ref (g.2.2 45)), (1, .int a1), (2, .int a2)] [] s0
  refine k_aload_n C (dk dX11_ground_0 0 rfl) rfl 0 rfl ?_
  refine k_iconst (v := (0 : Int32)) C (dk dX11_ground_0 1 rfl) (by decide) ?_
  refine k_putI (D := RX11) (T := TX11) (N := 39) (ci := 6) (k := 16) C iCX11 tyX11_ok nmX11 rfl (by decide) rfl (by decide) (iW3 _ (List.mem_of_getElem? (i := 20) rfl)) rfl rfl flq6_16 flp6_16 (dk dX11_ground_0 2 rfl) h (fun s1 h => ?_)
  refine k_iload_n C (dk dX11_ground_0 3 rfl) rfl 1 rfl ?_
  refine k_i2l C (dk dX11_ground_0 4 rfl) ?_
  refine cl2_k h (fun x3 s2 hc h => ?_)
  refine k_cs (As := [.long a1.toInt64]) (st := []) C (qX11_isCell l g hg hc) (iW11 _ (List.mem_of_getElem? (i := 21) rfl)) (iW11 _ (List.mem_of_getElem? (i := 22) rfl)) (iW0 _ (List.mem_of_getElem? (i := 5) rfl)) (iW11 _ (List.mem_of_getElem? (i := 23) rfl)) rfl rfl hdX11_isCell (by decide) rfl rfl (Nat.le_of_ble_eq_true rfl) (dk dX11_ground_0 5 rfl) ?_
  refine k_if_ne (tgt := 15) C (dk dX11_ground_0 6 rfl) (by decide) h (fun h => ?_) (fun h => ?_)
  ·
    refine k_iload_n C (dk dX11_ground_0 9 rfl) rfl 2 rfl ?_
    by_cases e0 : a2 = (0 : Int32)
    · replace h := (if_pos e0).symm.trans h
      refine k_tsIn (q := (0 : Int32)) (tgt := 52) C (dk dX11_ground_0 10 rfl) (by decide) (by decide) rfl (by decide) e0 ?_
      refine k_aload_n C (dk dX11_ground_0 11 rfl) rfl 0 rfl ?_
      refine k_getR (q := 46) (D := RX11) (T := TX11) (N := 39) (ci := 6) (k := 0) C iCX11 rfl (by decide) rfl (by decide) (iW2 _ (List.mem_of_getElem? (i := 25) rfl)) rfl (dk dX11_ground_0 12 rfl) ?_
      refine k_iload_n C (dk dX11_ground_0 13 rfl) rfl 1 rfl ?_
      refine k_iald C rfl rfl (dk dX11_ground_0 14 rfl) h (fun x4 h => ?_)
      exact k_iret E (dk dX11_ground_0 15 rfl) h
    replace h := (if_neg e0).symm.trans h
    by_cases e1 : a2 = (1 : Int32)
    · replace h := (if_pos e1).symm.trans h
      refine k_tsIn (q := (1 : Int32)) (tgt := 59) C (dk dX11_ground_0 10 rfl) (by decide) (by decide) rfl (by decide) e1 ?_
      refine k_aload_n C (dk dX11_ground_0 16 rfl) rfl 0 rfl ?_
      refine k_getR (q := 47) (D := RX11) (T := TX11) (N := 39) (ci := 6) (k := 1) C iCX11 rfl (by decide) rfl (by decide) (iW2 _ (List.mem_of_getElem? (i := 26) rfl)) rfl (dk dX11_ground_0 17 rfl) ?_
      refine k_iload_n C (dk dX11_ground_0 18 rfl) rfl 1 rfl ?_
      refine k_iald C rfl rfl (dk dX11_ground_0 19 rfl) h (fun x5 h => ?_)
      exact k_iret E (dk dX11_ground_0 20 rfl) h
    replace h := (if_neg e1).symm.trans h
    by_cases e2 : a2 = (2 : Int32)
    · replace h := (if_pos e2).symm.trans h
      refine k_tsIn (q := (2 : Int32)) (tgt := 66) C (dk dX11_ground_0 10 rfl) (by decide) (by decide) rfl (by decide) e2 ?_
      refine k_aload_n C (dk dX11_ground_0 21 rfl) rfl 0 rfl ?_
      refine k_iload_n C (dk dX11_ground_0 22 rfl) rfl 1 rfl ?_
      refine cl2_k h (fun x7 s6 hc h => ?_)
      refine k_cv (T := TX11) (N := 39) (ci := 6) (ob := 45) (As := [.int a1]) (st := []) C (qX11_heightOf l g hg hc) (iW10 _ (List.mem_of_getElem? (i := 21) rfl)) (iW10 _ (List.mem_of_getElem? (i := 22) rfl)) (iW10 _ (List.mem_of_getElem? (i := 23) rfl)) (iW0 _ (List.mem_of_getElem? (i := 5) rfl)) (iW10 _ (List.mem_of_getElem? (i := 24) rfl)) rfl rfl hdX11_heightOf (by decide) rfl (by decide) rfl rfl rfl (Nat.le_of_ble_eq_true rfl) (dk dX11_ground_0 23 rfl) ?_
      exact k_iret E (dk dX11_ground_0 24 rfl) h
    replace h := (if_neg e2).symm.trans h
    by_cases e3 : a2 = (3 : Int32)
    · replace h := (if_pos e3).symm.trans h
      refine k_tsIn (q := (3 : Int32)) (tgt := 72) C (dk dX11_ground_0 10 rfl) (by decide) (by decide) rfl (by decide) e3 ?_
      refine k_aload_n C (dk dX11_ground_0 25 rfl) rfl 0 rfl ?_
      refine k_iload_n C (dk dX11_ground_0 26 rfl) rfl 1 rfl ?_
      refine cl2_k h (fun x9 s8 hc h => ?_)
      refine k_cv (T := TX11) (N := 39) (ci := 6) (ob := 45) (As := [.int a1]) (st := []) C (qX11_isOpen l g hg hc) (iW10 _ (List.mem_of_getElem? (i := 6) rfl)) (iW10 _ (List.mem_of_getElem? (i := 7) rfl)) (iW10 _ (List.mem_of_getElem? (i := 8) rfl)) (iW0 _ (List.mem_of_getElem? (i := 5) rfl)) (iW10 _ (List.mem_of_getElem? (i := 9) rfl)) rfl rfl hdX11_isOpen (by decide) rfl (by decide) rfl rfl rfl (Nat.le_of_ble_eq_true rfl) (dk dX11_ground_0 27 rfl) ?_
      refine k_if_eq (tgt := 84) C (dk dX11_ground_0 28 rfl) (by decide) h (fun h => ?_) (fun h => ?_)
      ·
        refine k_iconst (v := (0 : Int32)) C (dk dX11_ground_0 31 rfl) (by decide) ?_
        exact k_iret E (dk dX11_ground_1 0 rfl) h
      ·
        refine k_iconst (v := (1 : Int32)) C (dk dX11_ground_0 29 rfl) (by decide) ?_
        refine k_goto (tgt := 85) C (dk dX11_ground_0 30 rfl) (by decide) ?_
        exact k_iret E (dk dX11_ground_1 0 rfl) h
    replace h := (if_neg e3).symm.trans h
    by_cases e4 : a2 = (4 : Int32)
    · replace h := (if_pos e4).symm.trans h
      refine k_tsIn (q := (4 : Int32)) (tgt := 86) C (dk dX11_ground_0 10 rfl) (by decide) (by decide) rfl (by decide) e4 ?_
      refine k_aload_n C (dk dX11_ground_1 1 rfl) rfl 0 rfl ?_
      refine k_iload_n C (dk dX11_ground_1 2 rfl) rfl 1 rfl ?_
      refine cl2_k h (fun x11 s10 hc h => ?_)
      refine k_cv (T := TX11) (N := 39) (ci := 6) (ob := 45) (As := [.int a1]) (st := []) C (qX11_chanceOf l g hg hc) (iW11 _ (List.mem_of_getElem? (i := 25) rfl)) (iW11 _ (List.mem_of_getElem? (i := 26) rfl)) (iW11 _ (List.mem_of_getElem? (i := 27) rfl)) (iW0 _ (List.mem_of_getElem? (i := 5) rfl)) (iW11 _ (List.mem_of_getElem? (i := 28) rfl)) rfl rfl hdX11_chanceOf (by decide) rfl (by decide) rfl rfl rfl (Nat.le_of_ble_eq_true rfl) (dk dX11_ground_1 3 rfl) ?_
      exact k_iret E (dk dX11_ground_1 4 rfl) h
    replace h := (if_neg e4).symm.trans h
    refine k_tsOut (tgt := 92) C (dk dX11_ground_0 10 rfl) (by have n0 : a2.toInt ≠ 0 := fun q => e0 (Int32.toInt_inj.mp (q.trans (by decide))); have n1 : a2.toInt ≠ 1 := fun q => e1 (Int32.toInt_inj.mp (q.trans (by decide))); have n2 : a2.toInt ≠ 2 := fun q => e2 (Int32.toInt_inj.mp (q.trans (by decide))); have n3 : a2.toInt ≠ 3 := fun q => e3 (Int32.toInt_inj.mp (q.trans (by decide))); have n4 : a2.toInt ≠ 4 := fun q => e4 (Int32.toInt_inj.mp (q.trans (by decide))); omega) (by decide) ?_
    refine k_iconst (v := (-1 : Int32)) C (dk dX11_ground_1 5 rfl) (by decide) ?_
    exact k_iret E (dk dX11_ground_1 6 rfl) h
  ·
    refine k_iconst (v := (-1 : Int32)) C (dk dX11_ground_0 7 rfl) (by decide) ?_
    exact k_iret E (dk dX11_ground_0 8 rfl) h
set_option maxRecDepth 100000 in
set_option maxHeartbeats 4000000 in
theorem qX11_wrongKept (l : Launch) (g : G) (hg : gOK g) {a1 : Int32}  {s0 σe : St} {v : Int32} (h : mX11_wrongKept a1 s0 = some (v, σe)) : Mc l g yX11_wrongKept cX11_wrongKept 2 (some .int) { frames := 1, cells := 0, slots := 0, locals := 25 } [.ref (g.2.2 45), .int a1] s0 (some (.int v)) σe := by
  refine k_enter hg pnRX11 rfl (Nat.le_of_ble_eq_true rfl) ?_
  intro WK E
  have C := kX_y E
  unfold mX11_wrongKept at h
  show WK 0 [(0, .ref (g.2.2 45)), (1, .int a1)] [] s0
  refine k_iload_n C (dk dX11_wrongKept_0 0 rfl) rfl 1 rfl ?_
  refine k_i2l C (dk dX11_wrongKept_0 1 rfl) ?_
  refine k_lconst (v := (0 : Int64)) C (dk dX11_wrongKept_0 2 rfl) (by decide) ?_
  refine k_ldc2 (v := (7 : Int64)) C (dk dX11_wrongKept_0 3 rfl) (iW8 _ (List.mem_of_getElem? (i := 15) rfl)) ?_
  refine cl2_k h (fun x2 s1 hc h => ?_)
  refine k_cs (As := [.long a1.toInt64, .long (0 : Int64), .long (7 : Int64)]) (st := []) C (qX11_in l g hg hc) (iW8 _ (List.mem_of_getElem? (i := 16) rfl)) (iW8 _ (List.mem_of_getElem? (i := 17) rfl)) (iW0 _ (List.mem_of_getElem? (i := 5) rfl)) (iW8 _ (List.mem_of_getElem? (i := 18) rfl)) rfl rfl hdX11_in (by decide) rfl rfl (Nat.le_of_ble_eq_true rfl) (dk dX11_wrongKept_0 4 rfl) ?_
  refine k_if_ne (tgt := 16) C (dk dX11_wrongKept_0 5 rfl) (by decide) h (fun h => ?_) (fun h => ?_)
  ·
    refine k_aload_n C (dk dX11_wrongKept_0 8 rfl) rfl 0 rfl ?_
    refine k_getR (q := 48) (D := RX11) (T := TX11) (N := 39) (ci := 6) (k := 10) C iCX11 rfl (by decide) rfl (by decide) (iW3 _ (List.mem_of_getElem? (i := 1) rfl)) rfl (dk dX11_wrongKept_0 9 rfl) ?_
    refine k_iload_n C (dk dX11_wrongKept_0 10 rfl) rfl 1 rfl ?_
    refine k_iald C rfl rfl (dk dX11_wrongKept_0 11 rfl) h (fun x3 h => ?_)
    refine k_if_ne (tgt := 30) C (dk dX11_wrongKept_0 12 rfl) (by decide) h (fun h => ?_) (fun h => ?_)
    ·
      refine k_aload_n C (dk dX11_wrongKept_0 15 rfl) rfl 0 rfl ?_
      refine k_getR (q := 48) (D := RX11) (T := TX11) (N := 39) (ci := 6) (k := 10) C iCX11 rfl (by decide) rfl (by decide) (iW3 _ (List.mem_of_getElem? (i := 1) rfl)) rfl (dk dX11_wrongKept_0 16 rfl) ?_
      refine k_iload_n C (dk dX11_wrongKept_0 17 rfl) rfl 1 rfl ?_
      refine k_iald C rfl rfl (dk dX11_wrongKept_0 18 rfl) h (fun x4 h => ?_)
      refine k_iconst (v := (1 : Int32)) C (dk dX11_wrongKept_0 19 rfl) (by decide) ?_
      refine k_icmp_eq (tgt := 45) C (dk dX11_wrongKept_0 20 rfl) (by decide) h (fun h => ?_) (fun h => ?_)
      ·
        refine k_iconst (v := (0 : Int32)) C (dk dX11_wrongKept_0 23 rfl) (by decide) ?_
        exact k_iret E (dk dX11_wrongKept_0 24 rfl) h
      ·
        refine k_bipush (v := (-12 : Int32)) C (dk dX11_wrongKept_0 21 rfl) (by decide) ?_
        refine k_goto (tgt := 46) C (dk dX11_wrongKept_0 22 rfl) (by decide) ?_
        exact k_iret E (dk dX11_wrongKept_0 24 rfl) h
    ·
      refine k_bipush (v := (-11 : Int32)) C (dk dX11_wrongKept_0 13 rfl) (by decide) ?_
      refine k_goto (tgt := 46) C (dk dX11_wrongKept_0 14 rfl) (by decide) ?_
      exact k_iret E (dk dX11_wrongKept_0 24 rfl) h
  ·
    refine k_iconst (v := (-1 : Int32)) C (dk dX11_wrongKept_0 6 rfl) (by decide) ?_
    refine k_goto (tgt := 46) C (dk dX11_wrongKept_0 7 rfl) (by decide) ?_
    exact k_iret E (dk dX11_wrongKept_0 24 rfl) h
set_option maxRecDepth 100000 in
set_option maxHeartbeats 4000000 in
theorem qX11_lays (l : Launch) (g : G) (hg : gOK g) {a1 : Int32} {a2 : Int32}  {s0 σe : St} {v : Int32} (h : mX11_lays a1 a2 s0 = some (v, σe)) : Mc l g yX11_lays cX11_lays 5 (some .int) { frames := 2, cells := 0, slots := 0, locals := 46 } [.ref (g.2.2 45), .int a1, .int a2] s0 (some (.int v)) σe := by
  refine k_enter hg pnRX11 rfl (Nat.le_of_ble_eq_true rfl) ?_
  intro WK E
  have C := kX_y E
  unfold mX11_lays at h
  show WK 0 [(0, .ref (g.2.2 45)), (1, .int a1), (2, .int a2)] [] s0
  refine k_aload_n C (dk dX11_lays_0 0 rfl) rfl 0 rfl ?_
  refine k_iconst (v := (0 : Int32)) C (dk dX11_lays_0 1 rfl) (by decide) ?_
  refine k_putI (D := RX11) (T := TX11) (N := 39) (ci := 6) (k := 16) C iCX11 tyX11_ok nmX11 rfl (by decide) rfl (by decide) (iW3 _ (List.mem_of_getElem? (i := 20) rfl)) rfl rfl flq6_16 flp6_16 (dk dX11_lays_0 2 rfl) h (fun s1 h => ?_)
  refine k_iload_n C (dk dX11_lays_0 3 rfl) rfl 2 rfl ?_
  refine k_i2l C (dk dX11_lays_0 4 rfl) ?_
  refine cl2_k h (fun x3 s2 hc h => ?_)
  refine k_cs (As := [.long a2.toInt64]) (st := []) C (qX11_isCell l g hg hc) (iW11 _ (List.mem_of_getElem? (i := 21) rfl)) (iW11 _ (List.mem_of_getElem? (i := 22) rfl)) (iW0 _ (List.mem_of_getElem? (i := 5) rfl)) (iW11 _ (List.mem_of_getElem? (i := 23) rfl)) rfl rfl hdX11_isCell (by decide) rfl rfl (Nat.le_of_ble_eq_true rfl) (dk dX11_lays_0 5 rfl) ?_
  refine kl_J (P := (fun J22 => ∀ (y4 : Int32) (s5 : St), J22 y4 s5 = some (v, σe) → WK 22 [(0, .ref (g.2.2 45)), (1, .int a1), (2, .int a2)] [.int y4] s5)) h (fun y4 s5 h => ?_) (fun J22 hJ22 h => ?_)
  ·
    unfold mX11_lays_22 at h
    refine k_istore_n (lv' := [(3, .int y4), (0, .ref (g.2.2 45)), (1, .int a1), (2, .int a2)]) C (dk dX11_lays_0 12 rfl) rfl (by decide) rfl ?_
    refine k_iload_n C (dk dX11_lays_0 13 rfl) rfl 0 rfl ?_
    refine k_if_ge (tgt := 29) C (dk dX11_lays_0 14 rfl) (by decide) h (fun h => ?_) (fun h => ?_)
    ·
      refine k_aload_n C (dk dX11_lays_0 17 rfl) rfl 1 rfl ?_
      refine k_getR (q := 46) (D := RX11) (T := TX11) (N := 39) (ci := 6) (k := 0) C iCX11 rfl (by decide) rfl (by decide) (iW2 _ (List.mem_of_getElem? (i := 25) rfl)) rfl (dk dX11_lays_0 18 rfl) ?_
      refine k_iload_n C (dk dX11_lays_0 19 rfl) rfl 3 rfl ?_
      refine k_iald C rfl rfl (dk dX11_lays_0 20 rfl) h (fun x6 h => ?_)
      refine k_istore (lv' := [(4, .int x6), (3, .int y4), (0, .ref (g.2.2 45)), (1, .int a1), (2, .int a2)]) C (dk dX11_lays_0 21 rfl) (by decide) rfl ?_
      refine k_aload_n C (dk dX11_lays_0 22 rfl) rfl 2 rfl ?_
      refine k_getR (q := 46) (D := RX11) (T := TX11) (N := 39) (ci := 6) (k := 0) C iCX11 rfl (by decide) rfl (by decide) (iW2 _ (List.mem_of_getElem? (i := 25) rfl)) rfl (dk dX11_lays_0 23 rfl) ?_
      refine k_iload_n C (dk dX11_lays_0 24 rfl) rfl 4 rfl ?_
      refine k_aload_n C (dk dX11_lays_0 25 rfl) rfl 2 rfl ?_
      refine k_getR (q := 49) (D := RX11) (T := TX11) (N := 39) (ci := 6) (k := 11) C iCX11 rfl (by decide) rfl (by decide) (iW3 _ (List.mem_of_getElem? (i := 2) rfl)) rfl (dk dX11_lays_0 26 rfl) ?_
      refine k_iload_n C (dk dX11_lays_0 27 rfl) rfl 3 rfl ?_
      refine k_iald C rfl rfl (dk dX11_lays_0 28 rfl) h (fun x7 h => ?_)
      refine k_iast C rfl rfl (dk dX11_lays_0 29 rfl) h (fun s8 h => ?_)
      refine k_aload_n C (dk dX11_lays_0 30 rfl) rfl 2 rfl ?_
      refine k_getR (q := 47) (D := RX11) (T := TX11) (N := 39) (ci := 6) (k := 1) C iCX11 rfl (by decide) rfl (by decide) (iW2 _ (List.mem_of_getElem? (i := 26) rfl)) rfl (dk dX11_lays_0 31 rfl) ?_
      refine k_iload_n C (dk dX11_lays_1 0 rfl) rfl 4 rfl ?_
      refine k_aload_n C (dk dX11_lays_1 1 rfl) rfl 2 rfl ?_
      refine k_getR (q := 50) (D := RX11) (T := TX11) (N := 39) (ci := 6) (k := 12) C iCX11 rfl (by decide) rfl (by decide) (iW3 _ (List.mem_of_getElem? (i := 3) rfl)) rfl (dk dX11_lays_1 2 rfl) ?_
      refine k_iload_n C (dk dX11_lays_1 3 rfl) rfl 3 rfl ?_
      refine k_iald C rfl rfl (dk dX11_lays_1 4 rfl) h (fun x9 h => ?_)
      refine k_iast C rfl rfl (dk dX11_lays_1 5 rfl) h (fun s10 h => ?_)
      refine k_iload C (dk dX11_lays_1 6 rfl) 0 rfl ?_
      exact k_iret E (dk dX11_lays_1 7 rfl) h
    ·
      refine k_iload_n C (dk dX11_lays_0 15 rfl) rfl 0 rfl ?_
      exact k_iret E (dk dX11_lays_0 16 rfl) h
  ·
    refine k_if_eq (tgt := 21) C (dk dX11_lays_0 6 rfl) (by decide) h (fun h => ?_) (fun h => ?_)
    ·
      refine k_iconst (v := (-1 : Int32)) C (dk dX11_lays_0 11 rfl) (by decide) ?_
      exact hJ22 _ _ h
    ·
      refine k_aload_n C (dk dX11_lays_0 7 rfl) rfl 0 rfl ?_
      refine k_iload_n C (dk dX11_lays_0 8 rfl) rfl 1 rfl ?_
      refine cl2_k h (fun x12 s11 hc h => ?_)
      refine k_cv (T := TX11) (N := 39) (ci := 6) (ob := 45) (As := [.int a1]) (st := []) C (qX11_wrongKept l g hg hc) (iW12 _ (List.mem_of_getElem? (i := 14) rfl)) (iW12 _ (List.mem_of_getElem? (i := 15) rfl)) (iW12 _ (List.mem_of_getElem? (i := 16) rfl)) (iW0 _ (List.mem_of_getElem? (i := 5) rfl)) (iW12 _ (List.mem_of_getElem? (i := 17) rfl)) rfl rfl hdX11_wrongKept (by decide) rfl (by decide) rfl rfl rfl (Nat.le_of_ble_eq_true rfl) (dk dX11_lays_0 9 rfl) ?_
      refine k_goto (tgt := 22) C (dk dX11_lays_0 10 rfl) (by decide) ?_
      exact hJ22 _ _ h
set_option maxRecDepth 100000 in
set_option maxHeartbeats 4000000 in
theorem qX11_stands (l : Launch) (g : G) (hg : gOK g) {a1 : Int32} {a2 : Int32}  {s0 σe : St} {v : Int32} (h : mX11_stands a1 a2 s0 = some (v, σe)) : Mc l g yX11_stands cX11_stands 4 (some .int) { frames := 2, cells := 0, slots := 0, locals := 46 } [.ref (g.2.2 45), .int a1, .int a2] s0 (some (.int v)) σe := by
  refine k_enter hg pnRX11 rfl (Nat.le_of_ble_eq_true rfl) ?_
  intro WK E
  have C := kX_y E
  unfold mX11_stands at h
  show WK 0 [(0, .ref (g.2.2 45)), (1, .int a1), (2, .int a2)] [] s0
  refine k_aload_n C (dk dX11_stands_0 0 rfl) rfl 0 rfl ?_
  refine k_iconst (v := (0 : Int32)) C (dk dX11_stands_0 1 rfl) (by decide) ?_
  refine k_putI (D := RX11) (T := TX11) (N := 39) (ci := 6) (k := 16) C iCX11 tyX11_ok nmX11 rfl (by decide) rfl (by decide) (iW3 _ (List.mem_of_getElem? (i := 20) rfl)) rfl rfl flq6_16 flp6_16 (dk dX11_stands_0 2 rfl) h (fun s1 h => ?_)
  refine k_iload_n C (dk dX11_stands_0 3 rfl) rfl 1 rfl ?_
  refine k_i2l C (dk dX11_stands_0 4 rfl) ?_
  refine k_lconst (v := (0 : Int64)) C (dk dX11_stands_0 5 rfl) (by decide) ?_
  refine k_lconst (v := (1 : Int64)) C (dk dX11_stands_0 6 rfl) (by decide) ?_
  refine cl2_k h (fun x3 s2 hc h => ?_)
  refine k_cs (As := [.long a1.toInt64, .long (0 : Int64), .long (1 : Int64)]) (st := []) C (qX11_in l g hg hc) (iW8 _ (List.mem_of_getElem? (i := 16) rfl)) (iW8 _ (List.mem_of_getElem? (i := 17) rfl)) (iW0 _ (List.mem_of_getElem? (i := 5) rfl)) (iW8 _ (List.mem_of_getElem? (i := 18) rfl)) rfl rfl hdX11_in (by decide) rfl rfl (Nat.le_of_ble_eq_true rfl) (dk dX11_stands_0 7 rfl) ?_
  refine k_if_eq (tgt := 23) C (dk dX11_stands_0 8 rfl) (by decide) h (fun h => ?_) (fun h => ?_)
  ·
    refine k_iconst (v := (-1 : Int32)) C (dk dX11_stands_0 13 rfl) (by decide) ?_
    exact k_iret E (dk dX11_stands_0 14 rfl) h
  ·
    refine k_iload_n C (dk dX11_stands_0 9 rfl) rfl 2 rfl ?_
    refine k_i2l C (dk dX11_stands_0 10 rfl) ?_
    refine cl2_k h (fun x5 s4 hc h => ?_)
    refine k_cs (As := [.long a2.toInt64]) (st := []) C (qX11_isCell l g hg hc) (iW11 _ (List.mem_of_getElem? (i := 21) rfl)) (iW11 _ (List.mem_of_getElem? (i := 22) rfl)) (iW0 _ (List.mem_of_getElem? (i := 5) rfl)) (iW11 _ (List.mem_of_getElem? (i := 23) rfl)) rfl rfl hdX11_isCell (by decide) rfl rfl (Nat.le_of_ble_eq_true rfl) (dk dX11_stands_0 11 rfl) ?_
    refine k_if_ne (tgt := 25) C (dk dX11_stands_0 12 rfl) (by decide) h (fun h => ?_) (fun h => ?_)
    ·
      refine k_aload_n C (dk dX11_stands_0 15 rfl) rfl 0 rfl ?_
      refine k_iload_n C (dk dX11_stands_0 16 rfl) rfl 2 rfl ?_
      refine cl2_k h (fun x7 s6 hc h => ?_)
      refine k_cv (T := TX11) (N := 39) (ci := 6) (ob := 45) (As := [.int a2]) (st := []) C (qX11_isOpen l g hg hc) (iW10 _ (List.mem_of_getElem? (i := 6) rfl)) (iW10 _ (List.mem_of_getElem? (i := 7) rfl)) (iW10 _ (List.mem_of_getElem? (i := 8) rfl)) (iW0 _ (List.mem_of_getElem? (i := 5) rfl)) (iW10 _ (List.mem_of_getElem? (i := 9) rfl)) rfl rfl hdX11_isOpen (by decide) rfl (by decide) rfl rfl rfl (Nat.le_of_ble_eq_true rfl) (dk dX11_stands_0 17 rfl) ?_
      refine k_if_ne (tgt := 36) C (dk dX11_stands_0 18 rfl) (by decide) h (fun h => ?_) (fun h => ?_)
      ·
        refine k_iload_n C (dk dX11_stands_0 21 rfl) rfl 1 rfl ?_
        refine kl_J (P := (fun J51 => ∀ (y8 : Int32) (s9 : St), J51 y8 s9 = some (v, σe) → WK 51 [(0, .ref (g.2.2 45)), (1, .int a1), (2, .int a2)] [.int y8] s9)) h (fun y8 s9 h => ?_) (fun J51 hJ51 h => ?_)
        ·
          unfold mX11_stands_51 at h
          refine k_istore_n (lv' := [(3, .int y8), (0, .ref (g.2.2 45)), (1, .int a1), (2, .int a2)]) C (dk dX11_stands_0 28 rfl) rfl (by decide) rfl ?_
          refine k_aload_n C (dk dX11_stands_0 29 rfl) rfl 1 rfl ?_
          refine k_iload_n C (dk dX11_stands_0 30 rfl) rfl 2 rfl ?_
          refine kl_J (P := (fun J65 => ∀ (y10 : Int32) (s11 : St), J65 y10 s11 = some (v, σe) → WK 65 [(0, .ref (g.2.2 45)), (1, .int a1), (2, .int a2), (3, .int y8)] [.int y10, .ref (g.2.2 45)] s11)) h (fun y10 s11 h => ?_) (fun J65 hJ65 h => ?_)
          ·
            unfold mX11_stands_65 at h
            refine k_putI (D := RX11) (T := TX11) (N := 39) (ci := 6) (k := 5) C iCX11 tyX11_ok nmX11 rfl (by decide) rfl (by decide) (iW2 _ (List.mem_of_getElem? (i := 29) rfl)) rfl rfl flq6_5 flp6_5 (dk dX11_stands_1 4 rfl) h (fun s12 h => ?_)
            refine k_aload_n C (dk dX11_stands_1 5 rfl) rfl 0 rfl ?_
            refine k_iload_n C (dk dX11_stands_1 6 rfl) rfl 1 rfl ?_
            refine k_iconst (v := (1 : Int32)) C (dk dX11_stands_1 7 rfl) (by decide) ?_
            refine kl_J (P := (fun J82 => ∀ (y13 : Int32) (s14 : St), J82 y13 s14 = some (v, σe) → WK 82 [(3, .int y8)] [.int y13, .ref (g.2.2 45)] s14)) h (fun y13 s14 h => ?_) (fun J82 hJ82 h => ?_)
            ·
              unfold mX11_stands_82 at h
              refine k_putI (D := RX11) (T := TX11) (N := 39) (ci := 6) (k := 6) C iCX11 tyX11_ok nmX11 rfl (by decide) rfl (by decide) (iW3 _ (List.mem_of_getElem? (i := 0) rfl)) rfl rfl flq6_6 flp6_6 (dk dX11_stands_1 13 rfl) h (fun s15 h => ?_)
              refine k_iload_n C (dk dX11_stands_1 14 rfl) rfl 0 rfl ?_
              exact k_iret E (dk dX11_stands_1 15 rfl) h
            ·
              refine k_icmp_ne (tgt := 78) C (dk dX11_stands_1 8 rfl) (by decide) h (fun h => ?_) (fun h => ?_)
              ·
                refine k_aload_n C (dk dX11_stands_1 11 rfl) rfl 0 rfl ?_
                refine k_getI (D := RX11) (T := TX11) (N := 39) (ci := 6) (k := 6) C iCX11 rfl (by decide) rfl (by decide) (iW3 _ (List.mem_of_getElem? (i := 0) rfl)) rfl (dk dX11_stands_1 12 rfl) h (fun x16 h => ?_)
                refine k_sub C [3] rfl ?_
                exact hJ82 _ _ h
              ·
                refine k_iload_n C (dk dX11_stands_1 9 rfl) rfl 2 rfl ?_
                refine k_goto (tgt := 82) C (dk dX11_stands_1 10 rfl) (by decide) ?_
                refine k_sub C [3] rfl ?_
                exact hJ82 _ _ h
          ·
            refine k_if_ne (tgt := 61) C (dk dX11_stands_0 31 rfl) (by decide) h (fun h => ?_) (fun h => ?_)
            ·
              refine k_aload_n C (dk dX11_stands_1 2 rfl) rfl 1 rfl ?_
              refine k_getI (D := RX11) (T := TX11) (N := 39) (ci := 6) (k := 5) C iCX11 rfl (by decide) rfl (by decide) (iW2 _ (List.mem_of_getElem? (i := 29) rfl)) rfl (dk dX11_stands_1 3 rfl) h (fun x17 h => ?_)
              refine k_sub C [1, 2, 3, 0] rfl ?_
              exact hJ65 _ _ h
            ·
              refine k_iload_n C (dk dX11_stands_1 0 rfl) rfl 3 rfl ?_
              refine k_goto (tgt := 65) C (dk dX11_stands_1 1 rfl) (by decide) ?_
              refine k_sub C [1, 2, 3, 0] rfl ?_
              exact hJ65 _ _ h
        ·
          refine k_if_ne (tgt := 47) C (dk dX11_stands_0 22 rfl) (by decide) h (fun h => ?_) (fun h => ?_)
          ·
            refine k_aload_n C (dk dX11_stands_0 26 rfl) rfl 0 rfl ?_
            refine k_getI (D := RX11) (T := TX11) (N := 39) (ci := 6) (k := 6) C iCX11 rfl (by decide) rfl (by decide) (iW3 _ (List.mem_of_getElem? (i := 0) rfl)) rfl (dk dX11_stands_0 27 rfl) h (fun x18 h => ?_)
            exact hJ51 _ _ h
          ·
            refine k_aload_n C (dk dX11_stands_0 23 rfl) rfl 0 rfl ?_
            refine k_getI (D := RX11) (T := TX11) (N := 39) (ci := 6) (k := 5) C iCX11 rfl (by decide) rfl (by decide) (iW2 _ (List.mem_of_getElem? (i := 29) rfl)) rfl (dk dX11_stands_0 24 rfl) h (fun x19 h => ?_)
            refine k_goto (tgt := 51) C (dk dX11_stands_0 25 rfl) (by decide) ?_
            exact hJ51 _ _ h
      ·
        refine k_bipush (v := (-3 : Int32)) C (dk dX11_stands_0 19 rfl) (by decide) ?_
        exact k_iret E (dk dX11_stands_0 20 rfl) h
    ·
      refine k_iconst (v := (-1 : Int32)) C (dk dX11_stands_0 13 rfl) (by decide) ?_
      exact k_iret E (dk dX11_stands_0 14 rfl) h
set_option maxRecDepth 100000 in
set_option maxHeartbeats 4000000 in
theorem qX11_set (l : Launch) (g : G) (hg : gOK g) {a1 : Int32} {a2 : Int32}  {s0 σe : St} {v : Int32} (h : mX11_set a1 a2 s0 = some (v, σe)) : Mc l g yX11_set cX11_set 4 (some .int) { frames := 1, cells := 0, slots := 0, locals := 25 } [.ref (g.2.2 45), .int a1, .int a2] s0 (some (.int v)) σe := by
  refine k_enter hg pnRX11 rfl (Nat.le_of_ble_eq_true rfl) ?_
  intro WK E
  have C := kX_y E
  unfold mX11_set at h
  show WK 0 [(0, .ref (g.2.2 45)), (1, .int a1), (2, .int a2)] [] s0
  refine k_aload_n C (dk dX11_set_0 0 rfl) rfl 0 rfl ?_
  refine k_iconst (v := (0 : Int32)) C (dk dX11_set_0 1 rfl) (by decide) ?_
  refine k_putI (D := RX11) (T := TX11) (N := 39) (ci := 6) (k := 16) C iCX11 tyX11_ok nmX11 rfl (by decide) rfl (by decide) (iW3 _ (List.mem_of_getElem? (i := 20) rfl)) rfl rfl flq6_16 flp6_16 (dk dX11_set_0 2 rfl) h (fun s1 h => ?_)
  refine k_iload_n C (dk dX11_set_0 3 rfl) rfl 1 rfl ?_
  refine k_i2l C (dk dX11_set_0 4 rfl) ?_
  refine k_lconst (v := (0 : Int64)) C (dk dX11_set_0 5 rfl) (by decide) ?_
  refine k_ldc2 (v := (2 : Int64)) C (dk dX11_set_0 6 rfl) (iW13 _ (List.mem_of_getElem? (i := 12) rfl)) ?_
  refine cl2_k h (fun x3 s2 hc h => ?_)
  refine k_cs (As := [.long a1.toInt64, .long (0 : Int64), .long (2 : Int64)]) (st := []) C (qX11_in l g hg hc) (iW8 _ (List.mem_of_getElem? (i := 16) rfl)) (iW8 _ (List.mem_of_getElem? (i := 17) rfl)) (iW0 _ (List.mem_of_getElem? (i := 5) rfl)) (iW8 _ (List.mem_of_getElem? (i := 18) rfl)) rfl rfl hdX11_in (by decide) rfl rfl (Nat.le_of_ble_eq_true rfl) (dk dX11_set_0 7 rfl) ?_
  refine k_if_eq (tgt := 38) C (dk dX11_set_0 8 rfl) (by decide) h (fun h => ?_) (fun h => ?_)
  ·
    refine k_iconst (v := (-1 : Int32)) C (dk dX11_set_0 20 rfl) (by decide) ?_
    exact k_iret E (dk dX11_set_0 21 rfl) h
  ·
    refine k_iload_n C (dk dX11_set_0 9 rfl) rfl 2 rfl ?_
    refine k_i2l C (dk dX11_set_0 10 rfl) ?_
    refine k_lconst (v := (0 : Int64)) C (dk dX11_set_0 11 rfl) (by decide) ?_
    refine k_iload_n C (dk dX11_set_0 12 rfl) rfl 1 rfl ?_
    refine k_iconst (v := (2 : Int32)) C (dk dX11_set_0 13 rfl) (by decide) ?_
    refine kl_J (P := (fun J32 => ∀ (y4 : Int64) (s5 : St), J32 y4 s5 = some (v, σe) → WK 32 [(0, .ref (g.2.2 45)), (1, .int a1), (2, .int a2)] [.long y4, .long (0 : Int64), .long a2.toInt64] s5)) h (fun y4 s5 h => ?_) (fun J32 hJ32 h => ?_)
    ·
      unfold mX11_set_32 at h
      refine cl2_k h (fun x7 s6 hc h => ?_)
      refine k_cs (As := [.long a2.toInt64, .long (0 : Int64), .long y4]) (st := []) C (qX11_in l g hg hc) (iW8 _ (List.mem_of_getElem? (i := 16) rfl)) (iW8 _ (List.mem_of_getElem? (i := 17) rfl)) (iW0 _ (List.mem_of_getElem? (i := 5) rfl)) (iW8 _ (List.mem_of_getElem? (i := 18) rfl)) rfl rfl hdX11_in (by decide) rfl rfl (Nat.le_of_ble_eq_true rfl) (dk dX11_set_0 18 rfl) ?_
      refine k_if_ne (tgt := 40) C (dk dX11_set_0 19 rfl) (by decide) h (fun h => ?_) (fun h => ?_)
      ·
        refine k_iload_n C (dk dX11_set_0 22 rfl) rfl 1 rfl ?_
        refine kl_J (P := (fun J67 => ∀ (y8 : Int32) (s9 : St), J67 y8 s9 = some (v, σe) → WK 67 [(0, .ref (g.2.2 45)), (1, .int a1), (2, .int a2)] [.int y8] s9)) h (fun y8 s9 h => ?_) (fun J67 hJ67 h => ?_)
        ·
          unfold mX11_set_67 at h
          refine k_istore_n (lv' := [(3, .int y8), (0, .ref (g.2.2 45)), (1, .int a1), (2, .int a2)]) C (dk dX11_set_1 3 rfl) rfl (by decide) rfl ?_
          refine k_aload_n C (dk dX11_set_1 4 rfl) rfl 1 rfl ?_
          refine k_iload_n C (dk dX11_set_1 5 rfl) rfl 2 rfl ?_
          refine kl_J (P := (fun J81 => ∀ (y10 : Int32) (s11 : St), J81 y10 s11 = some (v, σe) → WK 81 [(0, .ref (g.2.2 45)), (1, .int a1), (2, .int a2), (3, .int y8)] [.int y10, .ref (g.2.2 45)] s11)) h (fun y10 s11 h => ?_) (fun J81 hJ81 h => ?_)
          ·
            unfold mX11_set_81 at h
            refine k_putI (D := RX11) (T := TX11) (N := 39) (ci := 6) (k := 3) C iCX11 tyX11_ok nmX11 rfl (by decide) rfl (by decide) (iW2 _ (List.mem_of_getElem? (i := 27) rfl)) rfl rfl flq6_3 flp6_3 (dk dX11_set_1 11 rfl) h (fun s12 h => ?_)
            refine k_aload_n C (dk dX11_set_1 12 rfl) rfl 0 rfl ?_
            refine k_iload_n C (dk dX11_set_1 13 rfl) rfl 1 rfl ?_
            refine k_iconst (v := (1 : Int32)) C (dk dX11_set_1 14 rfl) (by decide) ?_
            refine kl_J (P := (fun J98 => ∀ (y13 : Int32) (s14 : St), J98 y13 s14 = some (v, σe) → WK 98 [(0, .ref (g.2.2 45)), (1, .int a1), (2, .int a2), (3, .int y8)] [.int y13, .ref (g.2.2 45)] s14)) h (fun y13 s14 h => ?_) (fun J98 hJ98 h => ?_)
            ·
              unfold mX11_set_98 at h
              refine k_putI (D := RX11) (T := TX11) (N := 39) (ci := 6) (k := 4) C iCX11 tyX11_ok nmX11 rfl (by decide) rfl (by decide) (iW2 _ (List.mem_of_getElem? (i := 28) rfl)) rfl rfl flq6_4 flp6_4 (dk dX11_set_1 20 rfl) h (fun s15 h => ?_)
              refine k_aload_n C (dk dX11_set_1 21 rfl) rfl 0 rfl ?_
              refine k_iload_n C (dk dX11_set_1 22 rfl) rfl 1 rfl ?_
              refine k_iconst (v := (2 : Int32)) C (dk dX11_set_1 23 rfl) (by decide) ?_
              refine kl_J (P := (fun J115 => ∀ (y16 : Int32) (s17 : St), J115 y16 s17 = some (v, σe) → WK 115 [(3, .int y8)] [.int y16, .ref (g.2.2 45)] s17)) h (fun y16 s17 h => ?_) (fun J115 hJ115 h => ?_)
              ·
                unfold mX11_set_115 at h
                refine k_putI (D := RX11) (T := TX11) (N := 39) (ci := 6) (k := 2) C iCX11 tyX11_ok nmX11 rfl (by decide) rfl (by decide) (iW9 _ (List.mem_of_getElem? (i := 13) rfl)) rfl rfl flq6_2 flp6_2 (dk dX11_set_1 29 rfl) h (fun s18 h => ?_)
                refine k_iload_n C (dk dX11_set_1 30 rfl) rfl 0 rfl ?_
                exact k_iret E (dk dX11_set_1 31 rfl) h
              ·
                refine k_icmp_ne (tgt := 111) C (dk dX11_set_1 24 rfl) (by decide) h (fun h => ?_) (fun h => ?_)
                ·
                  refine k_aload_n C (dk dX11_set_1 27 rfl) rfl 0 rfl ?_
                  refine k_getI (D := RX11) (T := TX11) (N := 39) (ci := 6) (k := 2) C iCX11 rfl (by decide) rfl (by decide) (iW9 _ (List.mem_of_getElem? (i := 13) rfl)) rfl (dk dX11_set_1 28 rfl) h (fun x19 h => ?_)
                  refine k_sub C [3] rfl ?_
                  exact hJ115 _ _ h
                ·
                  refine k_iload_n C (dk dX11_set_1 25 rfl) rfl 2 rfl ?_
                  refine k_goto (tgt := 115) C (dk dX11_set_1 26 rfl) (by decide) ?_
                  refine k_sub C [3] rfl ?_
                  exact hJ115 _ _ h
            ·
              refine k_icmp_ne (tgt := 94) C (dk dX11_set_1 15 rfl) (by decide) h (fun h => ?_) (fun h => ?_)
              ·
                refine k_aload_n C (dk dX11_set_1 18 rfl) rfl 0 rfl ?_
                refine k_getI (D := RX11) (T := TX11) (N := 39) (ci := 6) (k := 4) C iCX11 rfl (by decide) rfl (by decide) (iW2 _ (List.mem_of_getElem? (i := 28) rfl)) rfl (dk dX11_set_1 19 rfl) h (fun x20 h => ?_)
                exact hJ98 _ _ h
              ·
                refine k_iload_n C (dk dX11_set_1 16 rfl) rfl 2 rfl ?_
                refine k_goto (tgt := 98) C (dk dX11_set_1 17 rfl) (by decide) ?_
                exact hJ98 _ _ h
          ·
            refine k_if_ne (tgt := 77) C (dk dX11_set_1 6 rfl) (by decide) h (fun h => ?_) (fun h => ?_)
            ·
              refine k_aload_n C (dk dX11_set_1 9 rfl) rfl 1 rfl ?_
              refine k_getI (D := RX11) (T := TX11) (N := 39) (ci := 6) (k := 3) C iCX11 rfl (by decide) rfl (by decide) (iW2 _ (List.mem_of_getElem? (i := 27) rfl)) rfl (dk dX11_set_1 10 rfl) h (fun x21 h => ?_)
              refine k_sub C [1, 2, 3, 0] rfl ?_
              exact hJ81 _ _ h
            ·
              refine k_iload_n C (dk dX11_set_1 7 rfl) rfl 3 rfl ?_
              refine k_goto (tgt := 81) C (dk dX11_set_1 8 rfl) (by decide) ?_
              refine k_sub C [1, 2, 3, 0] rfl ?_
              exact hJ81 _ _ h
        ·
          refine k_if_ne (tgt := 51) C (dk dX11_set_0 23 rfl) (by decide) h (fun h => ?_) (fun h => ?_)
          ·
            refine k_iload_n C (dk dX11_set_0 27 rfl) rfl 1 rfl ?_
            refine k_iconst (v := (1 : Int32)) C (dk dX11_set_0 28 rfl) (by decide) ?_
            refine k_icmp_ne (tgt := 63) C (dk dX11_set_0 29 rfl) (by decide) h (fun h => ?_) (fun h => ?_)
            ·
              refine k_aload_n C (dk dX11_set_1 1 rfl) rfl 0 rfl ?_
              refine k_getI (D := RX11) (T := TX11) (N := 39) (ci := 6) (k := 2) C iCX11 rfl (by decide) rfl (by decide) (iW9 _ (List.mem_of_getElem? (i := 13) rfl)) rfl (dk dX11_set_1 2 rfl) h (fun x22 h => ?_)
              exact hJ67 _ _ h
            ·
              refine k_aload_n C (dk dX11_set_0 30 rfl) rfl 0 rfl ?_
              refine k_getI (D := RX11) (T := TX11) (N := 39) (ci := 6) (k := 4) C iCX11 rfl (by decide) rfl (by decide) (iW2 _ (List.mem_of_getElem? (i := 28) rfl)) rfl (dk dX11_set_0 31 rfl) h (fun x23 h => ?_)
              refine k_goto (tgt := 67) C (dk dX11_set_1 0 rfl) (by decide) ?_
              exact hJ67 _ _ h
          ·
            refine k_aload_n C (dk dX11_set_0 24 rfl) rfl 0 rfl ?_
            refine k_getI (D := RX11) (T := TX11) (N := 39) (ci := 6) (k := 3) C iCX11 rfl (by decide) rfl (by decide) (iW2 _ (List.mem_of_getElem? (i := 27) rfl)) rfl (dk dX11_set_0 25 rfl) h (fun x24 h => ?_)
            refine k_goto (tgt := 67) C (dk dX11_set_0 26 rfl) (by decide) ?_
            exact hJ67 _ _ h
      ·
        refine k_iconst (v := (-1 : Int32)) C (dk dX11_set_0 20 rfl) (by decide) ?_
        exact k_iret E (dk dX11_set_0 21 rfl) h
    ·
      refine k_icmp_ne (tgt := 29) C (dk dX11_set_0 14 rfl) (by decide) h (fun h => ?_) (fun h => ?_)
      ·
        refine k_ldc2 (v := (20 : Int64)) C (dk dX11_set_0 17 rfl) (iW13 _ (List.mem_of_getElem? (i := 13) rfl)) ?_
        exact hJ32 _ _ h
      ·
        refine k_lconst (v := (1 : Int64)) C (dk dX11_set_0 15 rfl) (by decide) ?_
        refine k_goto (tgt := 32) C (dk dX11_set_0 16 rfl) (by decide) ?_
        exact hJ32 _ _ h
set_option maxRecDepth 100000 in
set_option maxHeartbeats 4000000 in
theorem qX11_go (l : Launch) (g : G) (hg : gOK g) {a1 : Int32} {a2 : Int32}  {s0 σe : St} {v : Int32} (h : mX11_go a1 a2 s0 = some (v, σe)) : Mc l g yX11_go cX11_go 3 (some .int) { frames := 3, cells := 0, slots := 0, locals := 67 } [.ref (g.2.2 45), .int a1, .int a2] s0 (some (.int v)) σe := by
  refine k_enter hg pnRX11 rfl (Nat.le_of_ble_eq_true rfl) ?_
  intro WK E
  have C := kX_y E
  unfold mX11_go at h
  show WK 0 [(0, .ref (g.2.2 45)), (1, .int a1), (2, .int a2)] [] s0
  refine k_aload_n C (dk dX11_go_0 0 rfl) rfl 0 rfl ?_
  refine k_iconst (v := (0 : Int32)) C (dk dX11_go_0 1 rfl) (by decide) ?_
  refine k_putI (D := RX11) (T := TX11) (N := 39) (ci := 6) (k := 16) C iCX11 tyX11_ok nmX11 rfl (by decide) rfl (by decide) (iW3 _ (List.mem_of_getElem? (i := 20) rfl)) rfl rfl flq6_16 flp6_16 (dk dX11_go_0 2 rfl) h (fun s1 h => ?_)
  refine k_iload_n C (dk dX11_go_0 3 rfl) rfl 1 rfl ?_
  refine k_i2l C (dk dX11_go_0 4 rfl) ?_
  refine k_lconst (v := (0 : Int64)) C (dk dX11_go_0 5 rfl) (by decide) ?_
  refine k_ldc2 (v := (4 : Int64)) C (dk dX11_go_0 6 rfl) (iW13 _ (List.mem_of_getElem? (i := 27) rfl)) ?_
  refine cl2_k h (fun x3 s2 hc h => ?_)
  refine k_cs (As := [.long a1.toInt64, .long (0 : Int64), .long (4 : Int64)]) (st := []) C (qX11_in l g hg hc) (iW8 _ (List.mem_of_getElem? (i := 16) rfl)) (iW8 _ (List.mem_of_getElem? (i := 17) rfl)) (iW0 _ (List.mem_of_getElem? (i := 5) rfl)) (iW8 _ (List.mem_of_getElem? (i := 18) rfl)) rfl rfl hdX11_in (by decide) rfl rfl (Nat.le_of_ble_eq_true rfl) (dk dX11_go_0 7 rfl) ?_
  refine k_if_eq (tgt := 29) C (dk dX11_go_0 8 rfl) (by decide) h (fun h => ?_) (fun h => ?_)
  ·
    refine k_iconst (v := (-1 : Int32)) C (dk dX11_go_0 15 rfl) (by decide) ?_
    exact k_iret E (dk dX11_go_0 16 rfl) h
  ·
    refine k_iload_n C (dk dX11_go_0 9 rfl) rfl 2 rfl ?_
    refine k_i2l C (dk dX11_go_0 10 rfl) ?_
    refine k_lconst (v := (0 : Int64)) C (dk dX11_go_0 11 rfl) (by decide) ?_
    refine k_ldc2 (v := (4 : Int64)) C (dk dX11_go_0 12 rfl) (iW13 _ (List.mem_of_getElem? (i := 27) rfl)) ?_
    refine cl2_k h (fun x5 s4 hc h => ?_)
    refine k_cs (As := [.long a2.toInt64, .long (0 : Int64), .long (4 : Int64)]) (st := []) C (qX11_in l g hg hc) (iW8 _ (List.mem_of_getElem? (i := 16) rfl)) (iW8 _ (List.mem_of_getElem? (i := 17) rfl)) (iW0 _ (List.mem_of_getElem? (i := 5) rfl)) (iW8 _ (List.mem_of_getElem? (i := 18) rfl)) rfl rfl hdX11_in (by decide) rfl rfl (Nat.le_of_ble_eq_true rfl) (dk dX11_go_0 13 rfl) ?_
    refine k_if_ne (tgt := 31) C (dk dX11_go_0 14 rfl) (by decide) h (fun h => ?_) (fun h => ?_)
    ·
      refine k_aload_n C (dk dX11_go_0 17 rfl) rfl 0 rfl ?_
      refine k_iload_n C (dk dX11_go_0 18 rfl) rfl 1 rfl ?_
      refine k_iload_n C (dk dX11_go_0 19 rfl) rfl 2 rfl ?_
      refine cl2_k h (fun x7 s6 hc h => ?_)
      refine k_cv (T := TX11) (N := 39) (ci := 6) (ob := 45) (As := [.int a1, .int a2]) (st := []) C (qX11_canGo l g hg hc) (iW9 _ (List.mem_of_getElem? (i := 25) rfl)) (iW9 _ (List.mem_of_getElem? (i := 26) rfl)) (iW9 _ (List.mem_of_getElem? (i := 27) rfl)) (iW0 _ (List.mem_of_getElem? (i := 5) rfl)) (iW9 _ (List.mem_of_getElem? (i := 28) rfl)) rfl rfl hdX11_canGo (by decide) rfl (by decide) rfl rfl rfl (Nat.le_of_ble_eq_true rfl) (dk dX11_go_0 20 rfl) ?_
      refine k_if_ne (tgt := 43) C (dk dX11_go_0 21 rfl) (by decide) h (fun h => ?_) (fun h => ?_)
      ·
        refine k_aload_n C (dk dX11_go_0 24 rfl) rfl 0 rfl ?_
        refine k_iload_n C (dk dX11_go_0 25 rfl) rfl 1 rfl ?_
        refine k_iload_n C (dk dX11_go_0 26 rfl) rfl 2 rfl ?_
        refine cl1_k h (fun s8 hc h => ?_)
        refine k_cv (T := TX11) (N := 39) (ci := 6) (ob := 45) (As := [.int a1, .int a2]) (st := []) C (qX11_goBoth l g hg hc) (iW10 _ (List.mem_of_getElem? (i := 10) rfl)) (iW10 _ (List.mem_of_getElem? (i := 11) rfl)) (iW10 _ (List.mem_of_getElem? (i := 12) rfl)) (iW0 _ (List.mem_of_getElem? (i := 5) rfl)) (iW10 _ (List.mem_of_getElem? (i := 13) rfl)) rfl rfl hdX11_goBoth (by decide) rfl (by decide) rfl rfl rfl (Nat.le_of_ble_eq_true rfl) (dk dX11_go_0 27 rfl) ?_
        refine k_aload_n C (dk dX11_go_0 28 rfl) rfl 0 rfl ?_
        refine k_aload_n C (dk dX11_go_0 29 rfl) rfl 0 rfl ?_
        refine k_getI (D := RX11) (T := TX11) (N := 39) (ci := 6) (k := 5) C iCX11 rfl (by decide) rfl (by decide) (iW2 _ (List.mem_of_getElem? (i := 29) rfl)) rfl (dk dX11_go_0 30 rfl) h (fun x9 h => ?_)
        refine k_aload_n C (dk dX11_go_0 31 rfl) rfl 0 rfl ?_
        refine k_getI (D := RX11) (T := TX11) (N := 39) (ci := 6) (k := 6) C iCX11 rfl (by decide) rfl (by decide) (iW3 _ (List.mem_of_getElem? (i := 0) rfl)) rfl (dk dX11_go_1 0 rfl) h (fun x10 h => ?_)
        refine cl2_k h (fun x12 s11 hc h => ?_)
        refine k_cv (T := TX11) (N := 39) (ci := 6) (ob := 45) (As := [.int x9, .int x10]) (st := []) C (qX11_farOf l g hg hc) (iW10 _ (List.mem_of_getElem? (i := 14) rfl)) (iW10 _ (List.mem_of_getElem? (i := 15) rfl)) (iW10 _ (List.mem_of_getElem? (i := 16) rfl)) (iW0 _ (List.mem_of_getElem? (i := 5) rfl)) (iW10 _ (List.mem_of_getElem? (i := 17) rfl)) rfl rfl hdX11_farOf (by decide) rfl (by decide) rfl rfl rfl (Nat.le_of_ble_eq_true rfl) (dk dX11_go_1 1 rfl) ?_
        exact k_iret E (dk dX11_go_1 2 rfl) h
      ·
        refine k_bipush (v := (-3 : Int32)) C (dk dX11_go_0 22 rfl) (by decide) ?_
        exact k_iret E (dk dX11_go_0 23 rfl) h
    ·
      refine k_iconst (v := (-1 : Int32)) C (dk dX11_go_0 15 rfl) (by decide) ?_
      exact k_iret E (dk dX11_go_0 16 rfl) h
set_option maxRecDepth 100000 in
set_option maxHeartbeats 4000000 in
theorem qX11_far (l : Launch) (g : G) (hg : gOK g) {a1 : Int32} {a2 : Int32}  {s0 σe : St} {v : Int32} (h : mX11_far a1 a2 s0 = some (v, σe)) : Mc l g yX11_far cX11_far 3 (some .int) { frames := 2, cells := 0, slots := 0, locals := 46 } [.ref (g.2.2 45), .int a1, .int a2] s0 (some (.int v)) σe := by
  refine k_enter hg pnRX11 rfl (Nat.le_of_ble_eq_true rfl) ?_
  intro WK E
  have C := kX_y E
  unfold mX11_far at h
  show WK 0 [(0, .ref (g.2.2 45)), (1, .int a1), (2, .int a2)] [] s0
  refine k_aload_n C (dk dX11_far_0 0 rfl) rfl 0 rfl ?_
  refine k_iconst (v := (0 : Int32)) C (dk dX11_far_0 1 rfl) (by decide) ?_
  refine k_putI (D := RX11) (T := TX11) (N := 39) (ci := 6) (k := 16) C iCX11 tyX11_ok nmX11 rfl (by decide) rfl (by decide) (iW3 _ (List.mem_of_getElem? (i := 20) rfl)) rfl rfl flq6_16 flp6_16 (dk dX11_far_0 2 rfl) h (fun s1 h => ?_)
  refine k_iload_n C (dk dX11_far_0 3 rfl) rfl 1 rfl ?_
  refine k_i2l C (dk dX11_far_0 4 rfl) ?_
  refine cl2_k h (fun x3 s2 hc h => ?_)
  refine k_cs (As := [.long a1.toInt64]) (st := []) C (qX11_isCell l g hg hc) (iW11 _ (List.mem_of_getElem? (i := 21) rfl)) (iW11 _ (List.mem_of_getElem? (i := 22) rfl)) (iW0 _ (List.mem_of_getElem? (i := 5) rfl)) (iW11 _ (List.mem_of_getElem? (i := 23) rfl)) rfl rfl hdX11_isCell (by decide) rfl rfl (Nat.le_of_ble_eq_true rfl) (dk dX11_far_0 5 rfl) ?_
  refine k_if_eq (tgt := 30) C (dk dX11_far_0 6 rfl) (by decide) h (fun h => ?_) (fun h => ?_)
  ·
    refine k_iconst (v := (-1 : Int32)) C (dk dX11_far_0 16 rfl) (by decide) ?_
    exact k_iret E (dk dX11_far_0 17 rfl) h
  ·
    refine k_iload_n C (dk dX11_far_0 7 rfl) rfl 2 rfl ?_
    refine k_i2l C (dk dX11_far_0 8 rfl) ?_
    refine cl2_k h (fun x5 s4 hc h => ?_)
    refine k_cs (As := [.long a2.toInt64]) (st := []) C (qX11_isCell l g hg hc) (iW11 _ (List.mem_of_getElem? (i := 21) rfl)) (iW11 _ (List.mem_of_getElem? (i := 22) rfl)) (iW0 _ (List.mem_of_getElem? (i := 5) rfl)) (iW11 _ (List.mem_of_getElem? (i := 23) rfl)) rfl rfl hdX11_isCell (by decide) rfl rfl (Nat.le_of_ble_eq_true rfl) (dk dX11_far_0 9 rfl) ?_
    refine k_if_eq (tgt := 30) C (dk dX11_far_0 10 rfl) (by decide) h (fun h => ?_) (fun h => ?_)
    ·
      refine k_iconst (v := (-1 : Int32)) C (dk dX11_far_0 16 rfl) (by decide) ?_
      exact k_iret E (dk dX11_far_0 17 rfl) h
    ·
      refine k_aload_n C (dk dX11_far_0 11 rfl) rfl 0 rfl ?_
      refine k_iload_n C (dk dX11_far_0 12 rfl) rfl 1 rfl ?_
      refine k_iload_n C (dk dX11_far_0 13 rfl) rfl 2 rfl ?_
      refine cl2_k h (fun x7 s6 hc h => ?_)
      refine k_cv (T := TX11) (N := 39) (ci := 6) (ob := 45) (As := [.int a1, .int a2]) (st := []) C (qX11_farOf l g hg hc) (iW10 _ (List.mem_of_getElem? (i := 14) rfl)) (iW10 _ (List.mem_of_getElem? (i := 15) rfl)) (iW10 _ (List.mem_of_getElem? (i := 16) rfl)) (iW0 _ (List.mem_of_getElem? (i := 5) rfl)) (iW10 _ (List.mem_of_getElem? (i := 17) rfl)) rfl rfl hdX11_farOf (by decide) rfl (by decide) rfl rfl rfl (Nat.le_of_ble_eq_true rfl) (dk dX11_far_0 14 rfl) ?_
      refine k_goto (tgt := 31) C (dk dX11_far_0 15 rfl) (by decide) ?_
      exact k_iret E (dk dX11_far_0 17 rfl) h
set_option maxRecDepth 100000 in
set_option maxHeartbeats 4000000 in
theorem qX11_layStepsFrom (l : Launch) (g : G) (hg : gOK g) {a1 : Int32}  {s0 σe : St} (h : mX11_layStepsFrom a1 s0 = some σe) : Mc l g yX11_layStepsFrom cX11_layStepsFrom 6 none { frames := 3, cells := 0, slots := 0, locals := 71 } [.ref (g.2.2 45), .int a1] s0 none σe := by
  refine k_enter hg pnRX11 rfl (Nat.le_of_ble_eq_true rfl) ?_
  intro WK E
  have C := kX_y E
  unfold mX11_layStepsFrom at h
  show WK 0 [(0, .ref (g.2.2 45)), (1, .int a1)] [] s0
  refine k_iconst (v := (0 : Int32)) C (dk dX11_layStepsFrom_0 0 rfl) (by decide) ?_
  refine k_istore_n (lv' := [(2, .int (0 : Int32)), (0, .ref (g.2.2 45)), (1, .int a1)]) C (dk dX11_layStepsFrom_0 1 rfl) rfl (by decide) rfl ?_
  refine kl_L (P := (fun J2 => ∀ (y1 : Int32) (s2 : St), J2 y1 s2 = some σe → WK 2 [(0, .ref (g.2.2 45)), (1, .int a1), (2, .int y1)] [] s2)) h (fun _ _ h => nomatch h) (fun J2 hJ2 y1 s2 h => ?_) (fun J2 hJ2 h => ?_)
  ·
    unfold mX11_layStepsFrom_2 at h
    refine k_iload_n C (dk dX11_layStepsFrom_0 2 rfl) rfl 2 rfl ?_
    refine k_bipush (v := (36 : Int32)) C (dk dX11_layStepsFrom_0 3 rfl) (by decide) ?_
    refine k_icmp_ge (tgt := 22) C (dk dX11_layStepsFrom_0 4 rfl) (by decide) h (fun h => ?_) (fun h => ?_)
    ·
      refine k_lconst (v := (1 : Int64)) C (dk dX11_layStepsFrom_0 12 rfl) (by decide) ?_
      refine k_iload_n C (dk dX11_layStepsFrom_0 13 rfl) rfl 1 rfl ?_
      refine k_lshl C (dk dX11_layStepsFrom_0 14 rfl) ?_
      refine k_aload_n C (dk dX11_layStepsFrom_0 15 rfl) rfl 0 rfl ?_
      refine cl2_k h (fun x4 s3 hc h => ?_)
      refine k_cv (T := TX11) (N := 39) (ci := 6) (ob := 45) (As := []) (st := [.long ((1 : Int64) <<< (a1.toInt64 &&& 63))]) C (qX11_openCells l g hg hc) (iW15 _ (List.mem_of_getElem? (i := 8) rfl)) (iW15 _ (List.mem_of_getElem? (i := 9) rfl)) (iW15 _ (List.mem_of_getElem? (i := 10) rfl)) (iW0 _ (List.mem_of_getElem? (i := 5) rfl)) (iW15 _ (List.mem_of_getElem? (i := 11) rfl)) rfl rfl hdX11_openCells (by decide) rfl (by decide) rfl rfl rfl (Nat.le_of_ble_eq_true rfl) (dk dX11_layStepsFrom_0 16 rfl) ?_
      refine k_land C (dk dX11_layStepsFrom_0 17 rfl) ?_
      refine nmL h (fun x5 h => ?_)
      refine k_lstore_n (lv' := [(2, .long x5), (0, .ref (g.2.2 45)), (1, .int a1)]) C (dk dX11_layStepsFrom_0 18 rfl) rfl (by decide) rfl ?_
      refine k_iconst (v := (0 : Int32)) C (dk dX11_layStepsFrom_0 19 rfl) (by decide) ?_
      refine k_istore (lv' := [(4, .int (0 : Int32)), (2, .long x5), (0, .ref (g.2.2 45)), (1, .int a1)]) C (dk dX11_layStepsFrom_0 20 rfl) (by decide) rfl ?_
      refine kl_L (P := (fun J34 => ∀ (y6 : Int64) (y7 : Int32) (s8 : St), J34 y6 y7 s8 = some σe → WK 34 [(0, .ref (g.2.2 45)), (2, .long y6), (4, .int y7)] [] s8)) h (fun _ _ _ h => nomatch h) (fun J34 hJ34 y6 y7 s8 h => ?_) (fun J34 hJ34 h => ?_)
      ·
        unfold mX11_layStepsFrom_34 at h
        refine k_iload C (dk dX11_layStepsFrom_0 21 rfl) 2 rfl ?_
        refine k_bipush (v := (36 : Int32)) C (dk dX11_layStepsFrom_0 22 rfl) (by decide) ?_
        refine k_icmp_ge (tgt := 109) C (dk dX11_layStepsFrom_0 23 rfl) (by decide) h (fun h => ?_) (fun h => ?_)
        ·
          exact k_vret E (dk dX11_layStepsFrom_1 25 rfl) h
        ·
          refine k_iconst (v := (0 : Int32)) C (dk dX11_layStepsFrom_0 24 rfl) (by decide) ?_
          refine k_istore (lv' := [(5, .int (0 : Int32)), (0, .ref (g.2.2 45)), (2, .long y6), (4, .int y7)]) C (dk dX11_layStepsFrom_0 25 rfl) (by decide) rfl ?_
          refine kl_L (P := (fun J44 => ∀ (y9 : Int32) (s10 : St), J44 y9 s10 = some σe → WK 44 [(0, .ref (g.2.2 45)), (2, .long y6), (4, .int y7), (5, .int y9)] [] s10)) h (fun _ _ h => nomatch h) (fun J44 hJ44 y9 s10 h => ?_) (fun J44 hJ44 h => ?_)
          ·
            unfold mX11_layStepsFrom_44 at h
            refine k_iload C (dk dX11_layStepsFrom_0 26 rfl) 3 rfl ?_
            refine k_bipush (v := (36 : Int32)) C (dk dX11_layStepsFrom_0 27 rfl) (by decide) ?_
            refine k_icmp_ge (tgt := 97) C (dk dX11_layStepsFrom_0 28 rfl) (by decide) h (fun h => ?_) (fun h => ?_)
            ·
              refine k_aload_n C (dk dX11_layStepsFrom_1 19 rfl) rfl 0 rfl ?_
              refine k_lload_n C (dk dX11_layStepsFrom_1 20 rfl) rfl 1 rfl ?_
              refine cl2_k h (fun x12 s11 hc h => ?_)
              refine k_cv (T := TX11) (N := 39) (ci := 6) (ob := 45) (As := [.long y6]) (st := []) C (qX11_goOn l g hg hc) (iW15 _ (List.mem_of_getElem? (i := 15) rfl)) (iW15 _ (List.mem_of_getElem? (i := 16) rfl)) (iW15 _ (List.mem_of_getElem? (i := 17) rfl)) (iW0 _ (List.mem_of_getElem? (i := 5) rfl)) (iW15 _ (List.mem_of_getElem? (i := 18) rfl)) rfl rfl hdX11_goOn (by decide) rfl (by decide) rfl rfl rfl (Nat.le_of_ble_eq_true rfl) (dk dX11_layStepsFrom_1 21 rfl) ?_
              refine k_lstore_n (lv' := [(2, .long x12), (0, .ref (g.2.2 45)), (4, .int y7), (5, .int y9)]) C (dk dX11_layStepsFrom_1 22 rfl) rfl (by decide) rfl ?_
              refine k_iinc (lv' := [(4, .int (y7 + 1)), (2, .long x12), (0, .ref (g.2.2 45)), (5, .int y9)]) C (dk dX11_layStepsFrom_1 23 rfl) (j := 2) rfl rfl (by decide) rfl ?_
              refine k_goto (tgt := 34) C (dk dX11_layStepsFrom_1 24 rfl) (by decide) ?_
              refine k_sub C [2, 1, 0] rfl ?_
              exact hJ34 _ _ _ h
            ·
              refine k_aload_n C (dk dX11_layStepsFrom_0 29 rfl) rfl 0 rfl ?_
              refine k_getR (q := 59) (D := RX11) (T := TX11) (N := 39) (ci := 6) (k := 31) C iCX11 rfl (by decide) rfl (by decide) (iW3 _ (List.mem_of_getElem? (i := 13) rfl)) rfl (dk dX11_layStepsFrom_0 30 rfl) ?_
              refine k_iload C (dk dX11_layStepsFrom_0 31 rfl) 3 rfl ?_
              refine k_lload_n C (dk dX11_layStepsFrom_1 0 rfl) rfl 1 rfl ?_
              refine k_iload C (dk dX11_layStepsFrom_1 1 rfl) 3 rfl ?_
              refine cl2_k h (fun x14 s13 hc h => ?_)
              refine k_cs (As := [.long y6, .int y9]) (st := [.int y9, .ref (g.2.2 59)]) C (qX11_isOn l g hg hc) (iW15 _ (List.mem_of_getElem? (i := 12) rfl)) (iW15 _ (List.mem_of_getElem? (i := 13) rfl)) (iW0 _ (List.mem_of_getElem? (i := 5) rfl)) (iW15 _ (List.mem_of_getElem? (i := 14) rfl)) rfl rfl hdX11_isOn (by decide) rfl rfl (Nat.le_of_ble_eq_true rfl) (dk dX11_layStepsFrom_1 2 rfl) ?_
              refine kl_J (P := (fun J90 => ∀ (y15 : Int32) (s16 : St), J90 y15 s16 = some σe → WK 90 [(0, .ref (g.2.2 45)), (2, .long y6), (4, .int y7), (5, .int y9)] [.int y15, .int y9, .ref (g.2.2 59)] s16)) h (fun y15 s16 h => ?_) (fun J90 hJ90 h => ?_)
              ·
                unfold mX11_layStepsFrom_90 at h
                refine k_iast C rfl rfl (dk dX11_layStepsFrom_1 16 rfl) h (fun s17 h => ?_)
                refine k_iinc (lv' := [(5, .int (y9 + 1)), (0, .ref (g.2.2 45)), (2, .long y6), (4, .int y7)]) C (dk dX11_layStepsFrom_1 17 rfl) (j := 3) rfl rfl (by decide) rfl ?_
                refine k_goto (tgt := 44) C (dk dX11_layStepsFrom_1 18 rfl) (by decide) ?_
                refine k_sub C [1, 2, 3, 0] rfl ?_
                exact hJ44 _ _ h
              ·
                refine kl_J (P := (fun J83 => ∀ (s18 : St), J83 s18 = some σe → WK 83 [(0, .ref (g.2.2 45)), (2, .long y6), (4, .int y7), (5, .int y9)] [.int y9, .ref (g.2.2 59)] s18)) h (fun s18 h => ?_) (fun J83 hJ83 h => ?_)
                ·
                  unfold mX11_layStepsFrom_83 at h
                  refine k_aload_n C (dk dX11_layStepsFrom_1 12 rfl) rfl 0 rfl ?_
                  refine k_getR (q := 59) (D := RX11) (T := TX11) (N := 39) (ci := 6) (k := 31) C iCX11 rfl (by decide) rfl (by decide) (iW3 _ (List.mem_of_getElem? (i := 13) rfl)) rfl (dk dX11_layStepsFrom_1 13 rfl) ?_
                  refine k_iload C (dk dX11_layStepsFrom_1 14 rfl) 3 rfl ?_
                  refine k_iald C rfl rfl (dk dX11_layStepsFrom_1 15 rfl) h (fun x19 h => ?_)
                  exact hJ90 _ _ h
                ·
                  refine k_if_eq (tgt := 83) C (dk dX11_layStepsFrom_1 3 rfl) (by decide) h (fun h => ?_) (fun h => ?_)
                  ·
                    exact hJ83 _ h
                  ·
                    refine k_aload_n C (dk dX11_layStepsFrom_1 4 rfl) rfl 0 rfl ?_
                    refine k_getR (q := 59) (D := RX11) (T := TX11) (N := 39) (ci := 6) (k := 31) C iCX11 rfl (by decide) rfl (by decide) (iW3 _ (List.mem_of_getElem? (i := 13) rfl)) rfl (dk dX11_layStepsFrom_1 5 rfl) ?_
                    refine k_iload C (dk dX11_layStepsFrom_1 6 rfl) 3 rfl ?_
                    refine k_iald C rfl rfl (dk dX11_layStepsFrom_1 7 rfl) h (fun x20 h => ?_)
                    refine k_iload C (dk dX11_layStepsFrom_1 8 rfl) 2 rfl ?_
                    refine k_icmp_le (tgt := 83) C (dk dX11_layStepsFrom_1 9 rfl) (by decide) h (fun h => ?_) (fun h => ?_)
                    ·
                      exact hJ83 _ h
                    ·
                      refine k_iload C (dk dX11_layStepsFrom_1 10 rfl) 2 rfl ?_
                      refine k_goto (tgt := 90) C (dk dX11_layStepsFrom_1 11 rfl) (by decide) ?_
                      exact hJ90 _ _ h
          ·
            refine k_sub C [1, 2, 3, 0] rfl ?_
            exact hJ44 _ _ h
      ·
        refine k_sub C [2, 1, 0] rfl ?_
        exact hJ34 _ _ _ h
    ·
      refine k_aload_n C (dk dX11_layStepsFrom_0 5 rfl) rfl 0 rfl ?_
      refine k_getR (q := 59) (D := RX11) (T := TX11) (N := 39) (ci := 6) (k := 31) C iCX11 rfl (by decide) rfl (by decide) (iW3 _ (List.mem_of_getElem? (i := 13) rfl)) rfl (dk dX11_layStepsFrom_0 6 rfl) ?_
      refine k_iload_n C (dk dX11_layStepsFrom_0 7 rfl) rfl 2 rfl ?_
      refine k_bipush (v := (99 : Int32)) C (dk dX11_layStepsFrom_0 8 rfl) (by decide) ?_
      refine k_iast C rfl rfl (dk dX11_layStepsFrom_0 9 rfl) h (fun s21 h => ?_)
      refine k_iinc (lv' := [(2, .int (y1 + 1)), (0, .ref (g.2.2 45)), (1, .int a1)]) C (dk dX11_layStepsFrom_0 10 rfl) (j := 2) rfl rfl (by decide) rfl ?_
      refine k_goto (tgt := 2) C (dk dX11_layStepsFrom_0 11 rfl) (by decide) ?_
      refine k_sub C [1, 2, 0] rfl ?_
      exact hJ2 _ _ h
  ·
    refine k_sub C [1, 2, 0] rfl ?_
    exact hJ2 _ _ h
set_option maxRecDepth 100000 in
set_option maxHeartbeats 4000000 in
theorem qX11_steps (l : Launch) (g : G) (hg : gOK g) {a1 : Int32} {a2 : Int32}  {s0 σe : St} {v : Int32} (h : mX11_steps a1 a2 s0 = some (v, σe)) : Mc l g yX11_steps cX11_steps 3 (some .int) { frames := 4, cells := 0, slots := 0, locals := 96 } [.ref (g.2.2 45), .int a1, .int a2] s0 (some (.int v)) σe := by
  refine k_enter hg pnRX11 rfl (Nat.le_of_ble_eq_true rfl) ?_
  intro WK E
  have C := kX_y E
  unfold mX11_steps at h
  show WK 0 [(0, .ref (g.2.2 45)), (1, .int a1), (2, .int a2)] [] s0
  refine k_aload_n C (dk dX11_steps_0 0 rfl) rfl 0 rfl ?_
  refine k_iconst (v := (0 : Int32)) C (dk dX11_steps_0 1 rfl) (by decide) ?_
  refine k_putI (D := RX11) (T := TX11) (N := 39) (ci := 6) (k := 16) C iCX11 tyX11_ok nmX11 rfl (by decide) rfl (by decide) (iW3 _ (List.mem_of_getElem? (i := 20) rfl)) rfl rfl flq6_16 flp6_16 (dk dX11_steps_0 2 rfl) h (fun s1 h => ?_)
  refine k_iload_n C (dk dX11_steps_0 3 rfl) rfl 1 rfl ?_
  refine k_i2l C (dk dX11_steps_0 4 rfl) ?_
  refine cl2_k h (fun x3 s2 hc h => ?_)
  refine k_cs (As := [.long a1.toInt64]) (st := []) C (qX11_isCell l g hg hc) (iW11 _ (List.mem_of_getElem? (i := 21) rfl)) (iW11 _ (List.mem_of_getElem? (i := 22) rfl)) (iW0 _ (List.mem_of_getElem? (i := 5) rfl)) (iW11 _ (List.mem_of_getElem? (i := 23) rfl)) rfl rfl hdX11_isCell (by decide) rfl rfl (Nat.le_of_ble_eq_true rfl) (dk dX11_steps_0 5 rfl) ?_
  refine k_if_eq (tgt := 21) C (dk dX11_steps_0 6 rfl) (by decide) h (fun h => ?_) (fun h => ?_)
  ·
    refine k_iconst (v := (-1 : Int32)) C (dk dX11_steps_0 11 rfl) (by decide) ?_
    exact k_iret E (dk dX11_steps_0 12 rfl) h
  ·
    refine k_iload_n C (dk dX11_steps_0 7 rfl) rfl 2 rfl ?_
    refine k_i2l C (dk dX11_steps_0 8 rfl) ?_
    refine cl2_k h (fun x5 s4 hc h => ?_)
    refine k_cs (As := [.long a2.toInt64]) (st := []) C (qX11_isCell l g hg hc) (iW11 _ (List.mem_of_getElem? (i := 21) rfl)) (iW11 _ (List.mem_of_getElem? (i := 22) rfl)) (iW0 _ (List.mem_of_getElem? (i := 5) rfl)) (iW11 _ (List.mem_of_getElem? (i := 23) rfl)) rfl rfl hdX11_isCell (by decide) rfl rfl (Nat.le_of_ble_eq_true rfl) (dk dX11_steps_0 9 rfl) ?_
    refine k_if_ne (tgt := 23) C (dk dX11_steps_0 10 rfl) (by decide) h (fun h => ?_) (fun h => ?_)
    ·
      refine k_aload_n C (dk dX11_steps_0 13 rfl) rfl 0 rfl ?_
      refine k_iload_n C (dk dX11_steps_0 14 rfl) rfl 1 rfl ?_
      refine cl1_k h (fun s6 hc h => ?_)
      refine k_cv (T := TX11) (N := 39) (ci := 6) (ob := 45) (As := [.int a1]) (st := []) C (qX11_layStepsFrom l g hg hc) (iW15 _ (List.mem_of_getElem? (i := 4) rfl)) (iW15 _ (List.mem_of_getElem? (i := 5) rfl)) (iW15 _ (List.mem_of_getElem? (i := 6) rfl)) (iW0 _ (List.mem_of_getElem? (i := 5) rfl)) (iW15 _ (List.mem_of_getElem? (i := 7) rfl)) rfl rfl hdX11_layStepsFrom (by decide) rfl (by decide) rfl rfl rfl (Nat.le_of_ble_eq_true rfl) (dk dX11_steps_0 15 rfl) ?_
      refine k_aload_n C (dk dX11_steps_0 16 rfl) rfl 0 rfl ?_
      refine k_getR (q := 59) (D := RX11) (T := TX11) (N := 39) (ci := 6) (k := 31) C iCX11 rfl (by decide) rfl (by decide) (iW3 _ (List.mem_of_getElem? (i := 13) rfl)) rfl (dk dX11_steps_0 17 rfl) ?_
      refine k_iload_n C (dk dX11_steps_0 18 rfl) rfl 2 rfl ?_
      refine k_iald C rfl rfl (dk dX11_steps_0 19 rfl) h (fun x7 h => ?_)
      refine k_bipush (v := (99 : Int32)) C (dk dX11_steps_0 20 rfl) (by decide) ?_
      refine k_icmp_ge (tgt := 48) C (dk dX11_steps_0 21 rfl) (by decide) h (fun h => ?_) (fun h => ?_)
      ·
        refine k_bipush (v := (-4 : Int32)) C (dk dX11_steps_0 27 rfl) (by decide) ?_
        exact k_iret E (dk dX11_steps_0 28 rfl) h
      ·
        refine k_aload_n C (dk dX11_steps_0 22 rfl) rfl 0 rfl ?_
        refine k_getR (q := 59) (D := RX11) (T := TX11) (N := 39) (ci := 6) (k := 31) C iCX11 rfl (by decide) rfl (by decide) (iW3 _ (List.mem_of_getElem? (i := 13) rfl)) rfl (dk dX11_steps_0 23 rfl) ?_
        refine k_iload_n C (dk dX11_steps_0 24 rfl) rfl 2 rfl ?_
        refine k_iald C rfl rfl (dk dX11_steps_0 25 rfl) h (fun x8 h => ?_)
        refine k_goto (tgt := 50) C (dk dX11_steps_0 26 rfl) (by decide) ?_
        exact k_iret E (dk dX11_steps_0 28 rfl) h
    ·
      refine k_iconst (v := (-1 : Int32)) C (dk dX11_steps_0 11 rfl) (by decide) ?_
      exact k_iret E (dk dX11_steps_0 12 rfl) h
set_option maxRecDepth 100000 in
set_option maxHeartbeats 4000000 in
theorem qX11_isPair (l : Launch) (g : G) (hg : gOK g) {a1 : Int32} {a2 : Int32}  {s0 σe : St} {v : Int32} (h : mX11_isPair a1 a2 s0 = some (v, σe)) : Mc l g yX11_isPair cX11_isPair 3 (some .boolean) { frames := 3, cells := 0, slots := 0, locals := 65 } [.ref (g.2.2 45), .int a1, .int a2] s0 (some (.int v)) σe := by
  refine k_enter hg pnRX11 rfl (Nat.le_of_ble_eq_true rfl) ?_
  intro WK E
  have C := kX_y E
  unfold mX11_isPair at h
  show WK 0 [(0, .ref (g.2.2 45)), (1, .int a1), (2, .int a2)] [] s0
  refine k_aload_n C (dk dX11_isPair_0 0 rfl) rfl 0 rfl ?_
  refine k_iload_n C (dk dX11_isPair_0 1 rfl) rfl 1 rfl ?_
  refine cl2_k h (fun x2 s1 hc h => ?_)
  refine k_cv (T := TX11) (N := 39) (ci := 6) (ob := 45) (As := [.int a1]) (st := []) C (qX11_isOpen l g hg hc) (iW10 _ (List.mem_of_getElem? (i := 6) rfl)) (iW10 _ (List.mem_of_getElem? (i := 7) rfl)) (iW10 _ (List.mem_of_getElem? (i := 8) rfl)) (iW0 _ (List.mem_of_getElem? (i := 5) rfl)) (iW10 _ (List.mem_of_getElem? (i := 9) rfl)) rfl rfl hdX11_isOpen (by decide) rfl (by decide) rfl rfl rfl (Nat.le_of_ble_eq_true rfl) (dk dX11_isPair_0 2 rfl) ?_
  refine k_if_eq (tgt := 29) C (dk dX11_isPair_0 3 rfl) (by decide) h (fun h => ?_) (fun h => ?_)
  ·
    refine k_iconst (v := (0 : Int32)) C (dk dX11_isPair_0 15 rfl) (by decide) ?_
    exact k_zret E (dk dX11_isPair_0 16 rfl) h
  ·
    refine k_aload_n C (dk dX11_isPair_0 4 rfl) rfl 0 rfl ?_
    refine k_iload_n C (dk dX11_isPair_0 5 rfl) rfl 2 rfl ?_
    refine cl2_k h (fun x4 s3 hc h => ?_)
    refine k_cv (T := TX11) (N := 39) (ci := 6) (ob := 45) (As := [.int a2]) (st := []) C (qX11_isOpen l g hg hc) (iW10 _ (List.mem_of_getElem? (i := 6) rfl)) (iW10 _ (List.mem_of_getElem? (i := 7) rfl)) (iW10 _ (List.mem_of_getElem? (i := 8) rfl)) (iW0 _ (List.mem_of_getElem? (i := 5) rfl)) (iW10 _ (List.mem_of_getElem? (i := 9) rfl)) rfl rfl hdX11_isOpen (by decide) rfl (by decide) rfl rfl rfl (Nat.le_of_ble_eq_true rfl) (dk dX11_isPair_0 6 rfl) ?_
    refine k_if_eq (tgt := 29) C (dk dX11_isPair_0 7 rfl) (by decide) h (fun h => ?_) (fun h => ?_)
    ·
      refine k_iconst (v := (0 : Int32)) C (dk dX11_isPair_0 15 rfl) (by decide) ?_
      exact k_zret E (dk dX11_isPair_0 16 rfl) h
    ·
      refine k_aload_n C (dk dX11_isPair_0 8 rfl) rfl 0 rfl ?_
      refine k_iload_n C (dk dX11_isPair_0 9 rfl) rfl 1 rfl ?_
      refine k_iload_n C (dk dX11_isPair_0 10 rfl) rfl 2 rfl ?_
      refine cl2_k h (fun x6 s5 hc h => ?_)
      refine k_cv (T := TX11) (N := 39) (ci := 6) (ob := 45) (As := [.int a1, .int a2]) (st := []) C (qX11_isOff l g hg hc) (iW17 _ (List.mem_of_getElem? (i := 12) rfl)) (iW17 _ (List.mem_of_getElem? (i := 13) rfl)) (iW17 _ (List.mem_of_getElem? (i := 14) rfl)) (iW0 _ (List.mem_of_getElem? (i := 5) rfl)) (iW17 _ (List.mem_of_getElem? (i := 15) rfl)) rfl rfl hdX11_isOff (by decide) rfl (by decide) rfl rfl rfl (Nat.le_of_ble_eq_true rfl) (dk dX11_isPair_0 11 rfl) ?_
      refine k_if_ne (tgt := 29) C (dk dX11_isPair_0 12 rfl) (by decide) h (fun h => ?_) (fun h => ?_)
      ·
        refine k_iconst (v := (0 : Int32)) C (dk dX11_isPair_0 15 rfl) (by decide) ?_
        exact k_zret E (dk dX11_isPair_0 16 rfl) h
      ·
        refine k_iconst (v := (1 : Int32)) C (dk dX11_isPair_0 13 rfl) (by decide) ?_
        refine k_goto (tgt := 30) C (dk dX11_isPair_0 14 rfl) (by decide) ?_
        exact k_zret E (dk dX11_isPair_0 16 rfl) h
set_option maxRecDepth 100000 in
set_option maxHeartbeats 4000000 in
theorem qX11_pairMany (l : Launch) (g : G) (hg : gOK g)   {s0 σe : St} {v : Int32} (h : mX11_pairMany s0 = some (v, σe)) : Mc l g yX11_pairMany cX11_pairMany 3 (some .int) { frames := 4, cells := 0, slots := 0, locals := 87 } [.ref (g.2.2 45)] s0 (some (.int v)) σe := by
  refine k_enter hg pnRX11 rfl (Nat.le_of_ble_eq_true rfl) ?_
  intro WK E
  have C := kX_y E
  unfold mX11_pairMany at h
  show WK 0 [(0, .ref (g.2.2 45))] [] s0
  refine k_iconst (v := (0 : Int32)) C (dk dX11_pairMany_0 0 rfl) (by decide) ?_
  refine k_istore_n (lv' := [(1, .int (0 : Int32)), (0, .ref (g.2.2 45))]) C (dk dX11_pairMany_0 1 rfl) rfl (by decide) rfl ?_
  refine k_iconst (v := (0 : Int32)) C (dk dX11_pairMany_0 2 rfl) (by decide) ?_
  refine k_istore_n (lv' := [(2, .int (0 : Int32)), (1, .int (0 : Int32)), (0, .ref (g.2.2 45))]) C (dk dX11_pairMany_0 3 rfl) rfl (by decide) rfl ?_
  refine kl_L (P := (fun J4 => ∀ (y1 : Int32) (y2 : Int32) (s3 : St), J4 y1 y2 s3 = some (v, σe) → WK 4 [(0, .ref (g.2.2 45)), (1, .int y1), (2, .int y2)] [] s3)) h (fun _ _ _ h => nomatch h) (fun J4 hJ4 y1 y2 s3 h => ?_) (fun J4 hJ4 h => ?_)
  ·
    unfold mX11_pairMany_4 at h
    refine k_iload_n C (dk dX11_pairMany_0 4 rfl) rfl 2 rfl ?_
    refine k_sipush (v := (1296 : Int32)) C (dk dX11_pairMany_0 5 rfl) (by decide) ?_
    refine k_icmp_ge (tgt := 40) C (dk dX11_pairMany_0 6 rfl) (by decide) h (fun h => ?_) (fun h => ?_)
    ·
      refine k_iload_n C (dk dX11_pairMany_0 24 rfl) rfl 1 rfl ?_
      exact k_iret E (dk dX11_pairMany_0 25 rfl) h
    ·
      refine k_iload_n C (dk dX11_pairMany_0 7 rfl) rfl 1 rfl ?_
      refine k_aload_n C (dk dX11_pairMany_0 8 rfl) rfl 0 rfl ?_
      refine k_iload_n C (dk dX11_pairMany_0 9 rfl) rfl 2 rfl ?_
      refine k_bipush (v := (36 : Int32)) C (dk dX11_pairMany_0 10 rfl) (by decide) ?_
      refine k_idiv C (dk dX11_pairMany_0 11 rfl) (by decide) ?_
      refine k_iload_n C (dk dX11_pairMany_0 12 rfl) rfl 2 rfl ?_
      refine k_bipush (v := (36 : Int32)) C (dk dX11_pairMany_0 13 rfl) (by decide) ?_
      refine k_irem C (dk dX11_pairMany_0 14 rfl) (by decide) ?_
      refine cl2_k h (fun x5 s4 hc h => ?_)
      refine k_cv (T := TX11) (N := 39) (ci := 6) (ob := 45) (As := [.int (y2 / (36 : Int32)), .int (y2 - y2 / (36 : Int32) * (36 : Int32))]) (st := [.int y1]) C (qX11_isPair l g hg hc) (iW17 _ (List.mem_of_getElem? (i := 8) rfl)) (iW17 _ (List.mem_of_getElem? (i := 9) rfl)) (iW17 _ (List.mem_of_getElem? (i := 10) rfl)) (iW0 _ (List.mem_of_getElem? (i := 5) rfl)) (iW17 _ (List.mem_of_getElem? (i := 11) rfl)) rfl rfl hdX11_isPair (by decide) rfl (by decide) rfl rfl rfl (Nat.le_of_ble_eq_true rfl) (dk dX11_pairMany_0 15 rfl) ?_
      refine kl_J (P := (fun J32 => ∀ (y6 : Int32) (s7 : St), J32 y6 s7 = some (v, σe) → WK 32 [(0, .ref (g.2.2 45)), (2, .int y2)] [.int y6, .int y1] s7)) h (fun y6 s7 h => ?_) (fun J32 hJ32 h => ?_)
      ·
        unfold mX11_pairMany_32 at h
        refine k_iadd C (dk dX11_pairMany_0 20 rfl) ?_
        refine nmI h (fun x8 h => ?_)
        refine k_istore_n (lv' := [(1, .int x8), (0, .ref (g.2.2 45)), (2, .int y2)]) C (dk dX11_pairMany_0 21 rfl) rfl (by decide) rfl ?_
        refine k_iinc (lv' := [(2, .int (y2 + 1)), (1, .int x8), (0, .ref (g.2.2 45))]) C (dk dX11_pairMany_0 22 rfl) (j := 2) rfl rfl (by decide) rfl ?_
        refine k_goto (tgt := 4) C (dk dX11_pairMany_0 23 rfl) (by decide) ?_
        refine k_sub C [2, 1, 0] rfl ?_
        exact hJ4 _ _ _ h
      ·
        refine k_if_eq (tgt := 31) C (dk dX11_pairMany_0 16 rfl) (by decide) h (fun h => ?_) (fun h => ?_)
        ·
          refine k_iconst (v := (0 : Int32)) C (dk dX11_pairMany_0 19 rfl) (by decide) ?_
          refine k_sub C [0, 2] rfl ?_
          exact hJ32 _ _ h
        ·
          refine k_iconst (v := (1 : Int32)) C (dk dX11_pairMany_0 17 rfl) (by decide) ?_
          refine k_goto (tgt := 32) C (dk dX11_pairMany_0 18 rfl) (by decide) ?_
          refine k_sub C [0, 2] rfl ?_
          exact hJ32 _ _ h
  ·
    refine k_sub C [2, 1, 0] rfl ?_
    exact hJ4 _ _ _ h
set_option maxRecDepth 100000 in
set_option maxHeartbeats 4000000 in
theorem qX11_pairs (l : Launch) (g : G) (hg : gOK g) {a1 : Int32}  {s0 σe : St} {v : Int32} (h : mX11_pairs a1 s0 = some (v, σe)) : Mc l g yX11_pairs cX11_pairs 4 (some .int) { frames := 5, cells := 0, slots := 0, locals := 109 } [.ref (g.2.2 45), .int a1] s0 (some (.int v)) σe := by
  refine k_enter hg pnRX11 rfl (Nat.le_of_ble_eq_true rfl) ?_
  intro WK E
  have C := kX_y E
  unfold mX11_pairs at h
  show WK 0 [(0, .ref (g.2.2 45)), (1, .int a1)] [] s0
  refine k_aload_n C (dk dX11_pairs_0 0 rfl) rfl 0 rfl ?_
  refine k_iconst (v := (0 : Int32)) C (dk dX11_pairs_0 1 rfl) (by decide) ?_
  refine k_putI (D := RX11) (T := TX11) (N := 39) (ci := 6) (k := 16) C iCX11 tyX11_ok nmX11 rfl (by decide) rfl (by decide) (iW3 _ (List.mem_of_getElem? (i := 20) rfl)) rfl rfl flq6_16 flp6_16 (dk dX11_pairs_0 2 rfl) h (fun s1 h => ?_)
  refine k_iload_n C (dk dX11_pairs_0 3 rfl) rfl 1 rfl ?_
  refine k_iconst (v := (-1 : Int32)) C (dk dX11_pairs_0 4 rfl) (by decide) ?_
  refine k_icmp_ge (tgt := 12) C (dk dX11_pairs_0 5 rfl) (by decide) h (fun h => ?_) (fun h => ?_)
  ·
    refine k_iload_n C (dk dX11_pairs_0 8 rfl) rfl 1 rfl ?_
    refine k_if_ge (tgt := 21) C (dk dX11_pairs_0 9 rfl) (by decide) h (fun h => ?_) (fun h => ?_)
    ·
      refine k_iload_n C (dk dX11_pairs_0 13 rfl) rfl 1 rfl ?_
      refine k_istore_n (lv' := [(2, .int a1), (0, .ref (g.2.2 45)), (1, .int a1)]) C (dk dX11_pairs_0 14 rfl) rfl (by decide) rfl ?_
      refine k_iconst (v := (0 : Int32)) C (dk dX11_pairs_0 15 rfl) (by decide) ?_
      refine k_istore_n (lv' := [(3, .int (0 : Int32)), (2, .int a1), (0, .ref (g.2.2 45)), (1, .int a1)]) C (dk dX11_pairs_0 16 rfl) rfl (by decide) rfl ?_
      refine kl_L (P := (fun J25 => ∀ (y2 : Int32) (y3 : Int32) (s4 : St), J25 y2 y3 s4 = some (v, σe) → WK 25 [(0, .ref (g.2.2 45)), (2, .int y2), (3, .int y3)] [] s4)) h (fun _ _ _ h => nomatch h) (fun J25 hJ25 y2 y3 s4 h => ?_) (fun J25 hJ25 h => ?_)
      ·
        unfold mX11_pairs_25 at h
        refine k_iload_n C (dk dX11_pairs_0 17 rfl) rfl 2 rfl ?_
        refine k_sipush (v := (1296 : Int32)) C (dk dX11_pairs_0 18 rfl) (by decide) ?_
        refine k_icmp_ge (tgt := 73) C (dk dX11_pairs_0 19 rfl) (by decide) h (fun h => ?_) (fun h => ?_)
        ·
          refine k_bipush (v := (-4 : Int32)) C (dk dX11_pairs_1 12 rfl) (by decide) ?_
          exact k_iret E (dk dX11_pairs_1 13 rfl) h
        ·
          refine k_aload_n C (dk dX11_pairs_0 20 rfl) rfl 0 rfl ?_
          refine k_iload_n C (dk dX11_pairs_0 21 rfl) rfl 2 rfl ?_
          refine k_bipush (v := (36 : Int32)) C (dk dX11_pairs_0 22 rfl) (by decide) ?_
          refine k_idiv C (dk dX11_pairs_0 23 rfl) (by decide) ?_
          refine k_iload_n C (dk dX11_pairs_0 24 rfl) rfl 2 rfl ?_
          refine k_bipush (v := (36 : Int32)) C (dk dX11_pairs_0 25 rfl) (by decide) ?_
          refine k_irem C (dk dX11_pairs_0 26 rfl) (by decide) ?_
          refine cl2_k h (fun x6 s5 hc h => ?_)
          refine k_cv (T := TX11) (N := 39) (ci := 6) (ob := 45) (As := [.int (y3 / (36 : Int32)), .int (y3 - y3 / (36 : Int32) * (36 : Int32))]) (st := []) C (qX11_isPair l g hg hc) (iW17 _ (List.mem_of_getElem? (i := 8) rfl)) (iW17 _ (List.mem_of_getElem? (i := 9) rfl)) (iW17 _ (List.mem_of_getElem? (i := 10) rfl)) (iW0 _ (List.mem_of_getElem? (i := 5) rfl)) (iW17 _ (List.mem_of_getElem? (i := 11) rfl)) rfl rfl hdX11_isPair (by decide) rfl (by decide) rfl rfl rfl (Nat.le_of_ble_eq_true rfl) (dk dX11_pairs_0 27 rfl) ?_
          refine kl_J (P := (fun J67 => ∀ (y7 : Int32) (y8 : Int32) (s9 : St), J67 y7 y8 s9 = some (v, σe) → WK 67 [(0, .ref (g.2.2 45)), (2, .int y7), (3, .int y8)] [] s9)) h (fun y7 y8 s9 h => ?_) (fun J67 hJ67 h => ?_)
          ·
            unfold mX11_pairs_67 at h
            refine k_iinc (lv' := [(3, .int (y8 + 1)), (0, .ref (g.2.2 45)), (2, .int y7)]) C (dk dX11_pairs_1 10 rfl) (j := 2) rfl rfl (by decide) rfl ?_
            refine k_goto (tgt := 25) C (dk dX11_pairs_1 11 rfl) (by decide) ?_
            refine k_sub C [1, 2, 0] rfl ?_
            exact hJ25 _ _ _ h
          ·
            refine k_if_eq (tgt := 67) C (dk dX11_pairs_0 28 rfl) (by decide) h (fun h => ?_) (fun h => ?_)
            ·
              exact hJ67 _ _ _ h
            ·
              refine k_iload_n C (dk dX11_pairs_0 29 rfl) rfl 1 rfl ?_
              refine k_if_ne (tgt := 64) C (dk dX11_pairs_0 30 rfl) (by decide) h (fun h => ?_) (fun h => ?_)
              ·
                refine k_iinc (lv' := [(2, .int (y2 + (-1))), (0, .ref (g.2.2 45)), (3, .int y3)]) C (dk dX11_pairs_1 9 rfl) (j := 1) rfl rfl (by decide) rfl ?_
                refine k_sub C [1, 0, 2] rfl ?_
                exact hJ67 _ _ _ h
              ·
                refine k_bipush (v := (100 : Int32)) C (dk dX11_pairs_0 31 rfl) (by decide) ?_
                refine k_iload_n C (dk dX11_pairs_1 0 rfl) rfl 2 rfl ?_
                refine k_bipush (v := (36 : Int32)) C (dk dX11_pairs_1 1 rfl) (by decide) ?_
                refine k_idiv C (dk dX11_pairs_1 2 rfl) (by decide) ?_
                refine k_imul C (dk dX11_pairs_1 3 rfl) ?_
                refine k_iload_n C (dk dX11_pairs_1 4 rfl) rfl 2 rfl ?_
                refine k_bipush (v := (36 : Int32)) C (dk dX11_pairs_1 5 rfl) (by decide) ?_
                refine k_irem C (dk dX11_pairs_1 6 rfl) (by decide) ?_
                refine k_iadd C (dk dX11_pairs_1 7 rfl) ?_
                exact k_iret E (dk dX11_pairs_1 8 rfl) h
      ·
        refine k_sub C [2, 1, 0] rfl ?_
        exact hJ25 _ _ _ h
    ·
      refine k_aload_n C (dk dX11_pairs_0 10 rfl) rfl 0 rfl ?_
      refine cl2_k h (fun x11 s10 hc h => ?_)
      refine k_cv (T := TX11) (N := 39) (ci := 6) (ob := 45) (As := []) (st := []) C (qX11_pairMany l g hg hc) (iW17 _ (List.mem_of_getElem? (i := 4) rfl)) (iW17 _ (List.mem_of_getElem? (i := 5) rfl)) (iW17 _ (List.mem_of_getElem? (i := 6) rfl)) (iW0 _ (List.mem_of_getElem? (i := 5) rfl)) (iW17 _ (List.mem_of_getElem? (i := 7) rfl)) rfl rfl hdX11_pairMany (by decide) rfl (by decide) rfl rfl rfl (Nat.le_of_ble_eq_true rfl) (dk dX11_pairs_0 11 rfl) ?_
      exact k_iret E (dk dX11_pairs_0 12 rfl) h
  ·
    refine k_iconst (v := (-1 : Int32)) C (dk dX11_pairs_0 6 rfl) (by decide) ?_
    exact k_iret E (dk dX11_pairs_0 7 rfl) h
set_option maxRecDepth 100000 in
set_option maxHeartbeats 4000000 in
theorem qX11_partWith (l : Launch) (g : G) (hg : gOK g) {a1 : Int32}  {s0 σe : St} {v : Int64} (h : mX11_partWith a1 s0 = some (v, σe)) : Mc l g yX11_partWith cX11_partWith 5 (some .long) { frames := 4, cells := 0, slots := 0, locals := 96 } [.ref (g.2.2 45), .int a1] s0 (some (.long v)) σe := by
  refine k_enter hg pnRX11 rfl (Nat.le_of_ble_eq_true rfl) ?_
  intro WK E
  have C := kX_y E
  unfold mX11_partWith at h
  show WK 0 [(0, .ref (g.2.2 45)), (1, .int a1)] [] s0
  refine k_aload_n C (dk dX11_partWith_0 0 rfl) rfl 0 rfl ?_
  refine k_iload_n C (dk dX11_partWith_0 1 rfl) rfl 1 rfl ?_
  refine cl1_k h (fun s1 hc h => ?_)
  refine k_cv (T := TX11) (N := 39) (ci := 6) (ob := 45) (As := [.int a1]) (st := []) C (qX11_layStepsFrom l g hg hc) (iW15 _ (List.mem_of_getElem? (i := 4) rfl)) (iW15 _ (List.mem_of_getElem? (i := 5) rfl)) (iW15 _ (List.mem_of_getElem? (i := 6) rfl)) (iW0 _ (List.mem_of_getElem? (i := 5) rfl)) (iW15 _ (List.mem_of_getElem? (i := 7) rfl)) rfl rfl hdX11_layStepsFrom (by decide) rfl (by decide) rfl rfl rfl (Nat.le_of_ble_eq_true rfl) (dk dX11_partWith_0 2 rfl) ?_
  refine k_lconst (v := (0 : Int64)) C (dk dX11_partWith_0 3 rfl) (by decide) ?_
  refine k_lstore_n (lv' := [(2, .long (0 : Int64)), (0, .ref (g.2.2 45)), (1, .int a1)]) C (dk dX11_partWith_0 4 rfl) rfl (by decide) rfl ?_
  refine k_iconst (v := (0 : Int32)) C (dk dX11_partWith_0 5 rfl) (by decide) ?_
  refine k_istore (lv' := [(4, .int (0 : Int32)), (2, .long (0 : Int64)), (0, .ref (g.2.2 45)), (1, .int a1)]) C (dk dX11_partWith_0 6 rfl) (by decide) rfl ?_
  refine kl_L (P := (fun J10 => ∀ (y2 : Int64) (y3 : Int32) (s4 : St), J10 y2 y3 s4 = some (v, σe) → WK 10 [(0, .ref (g.2.2 45)), (2, .long y2), (4, .int y3)] [] s4)) h (fun _ _ _ h => nomatch h) (fun J10 hJ10 y2 y3 s4 h => ?_) (fun J10 hJ10 h => ?_)
  ·
    unfold mX11_partWith_10 at h
    refine k_iload C (dk dX11_partWith_0 7 rfl) 2 rfl ?_
    refine k_bipush (v := (36 : Int32)) C (dk dX11_partWith_0 8 rfl) (by decide) ?_
    refine k_icmp_ge (tgt := 46) C (dk dX11_partWith_0 9 rfl) (by decide) h (fun h => ?_) (fun h => ?_)
    ·
      refine k_lload_n C (dk dX11_partWith_0 26 rfl) rfl 1 rfl ?_
      exact k_lret E (dk dX11_partWith_0 27 rfl) h
    ·
      refine k_lload_n C (dk dX11_partWith_0 10 rfl) rfl 1 rfl ?_
      refine k_aload_n C (dk dX11_partWith_0 11 rfl) rfl 0 rfl ?_
      refine k_getR (q := 59) (D := RX11) (T := TX11) (N := 39) (ci := 6) (k := 31) C iCX11 rfl (by decide) rfl (by decide) (iW3 _ (List.mem_of_getElem? (i := 13) rfl)) rfl (dk dX11_partWith_0 12 rfl) ?_
      refine k_iload C (dk dX11_partWith_0 13 rfl) 2 rfl ?_
      refine k_iald C rfl rfl (dk dX11_partWith_0 14 rfl) h (fun x5 h => ?_)
      refine k_bipush (v := (99 : Int32)) C (dk dX11_partWith_0 15 rfl) (by decide) ?_
      refine kl_J (P := (fun J38 => ∀ (y6 : Int64) (s7 : St), J38 y6 s7 = some (v, σe) → WK 38 [(0, .ref (g.2.2 45)), (4, .int y3)] [.long y6, .long y2] s7)) h (fun y6 s7 h => ?_) (fun J38 hJ38 h => ?_)
      ·
        unfold mX11_partWith_38 at h
        refine k_lor C (dk dX11_partWith_0 22 rfl) ?_
        refine nmL h (fun x8 h => ?_)
        refine k_lstore_n (lv' := [(2, .long x8), (0, .ref (g.2.2 45)), (4, .int y3)]) C (dk dX11_partWith_0 23 rfl) rfl (by decide) rfl ?_
        refine k_iinc (lv' := [(4, .int (y3 + 1)), (2, .long x8), (0, .ref (g.2.2 45))]) C (dk dX11_partWith_0 24 rfl) (j := 2) rfl rfl (by decide) rfl ?_
        refine k_goto (tgt := 10) C (dk dX11_partWith_0 25 rfl) (by decide) ?_
        refine k_sub C [2, 1, 0] rfl ?_
        exact hJ10 _ _ _ h
      ·
        refine k_icmp_ge (tgt := 37) C (dk dX11_partWith_0 16 rfl) (by decide) h (fun h => ?_) (fun h => ?_)
        ·
          refine k_lconst (v := (0 : Int64)) C (dk dX11_partWith_0 21 rfl) (by decide) ?_
          refine k_sub C [0, 2] rfl ?_
          exact hJ38 _ _ h
        ·
          refine k_lconst (v := (1 : Int64)) C (dk dX11_partWith_0 17 rfl) (by decide) ?_
          refine k_iload C (dk dX11_partWith_0 18 rfl) 2 rfl ?_
          refine k_lshl C (dk dX11_partWith_0 19 rfl) ?_
          refine k_goto (tgt := 38) C (dk dX11_partWith_0 20 rfl) (by decide) ?_
          refine k_sub C [0, 2] rfl ?_
          exact hJ38 _ _ h
  ·
    refine k_sub C [2, 1, 0] rfl ?_
    exact hJ10 _ _ _ h
set_option maxRecDepth 100000 in
set_option maxHeartbeats 4000000 in
theorem qX11_islands (l : Launch) (g : G) (hg : gOK g)   {s0 σe : St} {v : Int32} (h : mX11_islands s0 = some (v, σe)) : Mc l g yX11_islands cX11_islands 5 (some .int) { frames := 5, cells := 0, slots := 0, locals := 120 } [.ref (g.2.2 45)] s0 (some (.int v)) σe := by
  refine k_enter hg pnRX11 rfl (Nat.le_of_ble_eq_true rfl) ?_
  intro WK E
  have C := kX_y E
  unfold mX11_islands at h
  show WK 0 [(0, .ref (g.2.2 45))] [] s0
  refine k_aload_n C (dk dX11_islands_0 0 rfl) rfl 0 rfl ?_
  refine k_iconst (v := (0 : Int32)) C (dk dX11_islands_0 1 rfl) (by decide) ?_
  refine k_putI (D := RX11) (T := TX11) (N := 39) (ci := 6) (k := 16) C iCX11 tyX11_ok nmX11 rfl (by decide) rfl (by decide) (iW3 _ (List.mem_of_getElem? (i := 20) rfl)) rfl rfl flq6_16 flp6_16 (dk dX11_islands_0 2 rfl) h (fun s1 h => ?_)
  refine k_iconst (v := (0 : Int32)) C (dk dX11_islands_0 3 rfl) (by decide) ?_
  refine k_istore_n (lv' := [(1, .int (0 : Int32)), (0, .ref (g.2.2 45))]) C (dk dX11_islands_0 4 rfl) rfl (by decide) rfl ?_
  refine k_lconst (v := (0 : Int64)) C (dk dX11_islands_0 5 rfl) (by decide) ?_
  refine k_lstore_n (lv' := [(2, .long (0 : Int64)), (1, .int (0 : Int32)), (0, .ref (g.2.2 45))]) C (dk dX11_islands_0 6 rfl) rfl (by decide) rfl ?_
  refine k_iconst (v := (0 : Int32)) C (dk dX11_islands_0 7 rfl) (by decide) ?_
  refine k_istore (lv' := [(4, .int (0 : Int32)), (2, .long (0 : Int64)), (1, .int (0 : Int32)), (0, .ref (g.2.2 45))]) C (dk dX11_islands_0 8 rfl) (by decide) rfl ?_
  refine kl_L (P := (fun J12 => ∀ (y2 : Int32) (y3 : Int64) (y4 : Int32) (s5 : St), J12 y2 y3 y4 s5 = some (v, σe) → WK 12 [(0, .ref (g.2.2 45)), (1, .int y2), (2, .long y3), (4, .int y4)] [] s5)) h (fun _ _ _ _ h => nomatch h) (fun J12 hJ12 y2 y3 y4 s5 h => ?_) (fun J12 hJ12 h => ?_)
  ·
    unfold mX11_islands_12 at h
    refine k_iload C (dk dX11_islands_0 9 rfl) 3 rfl ?_
    refine k_bipush (v := (36 : Int32)) C (dk dX11_islands_0 10 rfl) (by decide) ?_
    refine k_icmp_ge (tgt := 55) C (dk dX11_islands_0 11 rfl) (by decide) h (fun h => ?_) (fun h => ?_)
    ·
      refine k_iload_n C (dk dX11_islands_0 29 rfl) rfl 1 rfl ?_
      exact k_iret E (dk dX11_islands_0 30 rfl) h
    ·
      refine k_aload_n C (dk dX11_islands_0 12 rfl) rfl 0 rfl ?_
      refine k_iload C (dk dX11_islands_0 13 rfl) 3 rfl ?_
      refine cl2_k h (fun x7 s6 hc h => ?_)
      refine k_cv (T := TX11) (N := 39) (ci := 6) (ob := 45) (As := [.int y4]) (st := []) C (qX11_isOpen l g hg hc) (iW10 _ (List.mem_of_getElem? (i := 6) rfl)) (iW10 _ (List.mem_of_getElem? (i := 7) rfl)) (iW10 _ (List.mem_of_getElem? (i := 8) rfl)) (iW0 _ (List.mem_of_getElem? (i := 5) rfl)) (iW10 _ (List.mem_of_getElem? (i := 9) rfl)) rfl rfl hdX11_isOpen (by decide) rfl (by decide) rfl rfl rfl (Nat.le_of_ble_eq_true rfl) (dk dX11_islands_0 14 rfl) ?_
      refine kl_J (P := (fun J49 => ∀ (y8 : Int32) (y9 : Int64) (y10 : Int32) (s11 : St), J49 y8 y9 y10 s11 = some (v, σe) → WK 49 [(0, .ref (g.2.2 45)), (1, .int y8), (2, .long y9), (4, .int y10)] [] s11)) h (fun y8 y9 y10 s11 h => ?_) (fun J49 hJ49 h => ?_)
      ·
        unfold mX11_islands_49 at h
        refine k_iinc (lv' := [(4, .int (y10 + 1)), (0, .ref (g.2.2 45)), (1, .int y8), (2, .long y9)]) C (dk dX11_islands_0 27 rfl) (j := 3) rfl rfl (by decide) rfl ?_
        refine k_goto (tgt := 12) C (dk dX11_islands_0 28 rfl) (by decide) ?_
        refine k_sub C [1, 2, 3, 0] rfl ?_
        exact hJ12 _ _ _ _ h
      ·
        refine k_if_eq (tgt := 49) C (dk dX11_islands_0 15 rfl) (by decide) h (fun h => ?_) (fun h => ?_)
        ·
          exact hJ49 _ _ _ _ h
        ·
          refine k_lload_n C (dk dX11_islands_0 16 rfl) rfl 2 rfl ?_
          refine k_iload C (dk dX11_islands_0 17 rfl) 3 rfl ?_
          refine cl2_k h (fun x13 s12 hc h => ?_)
          refine k_cs (As := [.long y3, .int y4]) (st := []) C (qX11_isOn l g hg hc) (iW15 _ (List.mem_of_getElem? (i := 12) rfl)) (iW15 _ (List.mem_of_getElem? (i := 13) rfl)) (iW0 _ (List.mem_of_getElem? (i := 5) rfl)) (iW15 _ (List.mem_of_getElem? (i := 14) rfl)) rfl rfl hdX11_isOn (by decide) rfl rfl (Nat.le_of_ble_eq_true rfl) (dk dX11_islands_0 18 rfl) ?_
          refine k_if_ne (tgt := 49) C (dk dX11_islands_0 19 rfl) (by decide) h (fun h => ?_) (fun h => ?_)
          ·
            exact hJ49 _ _ _ _ h
          ·
            refine k_lload_n C (dk dX11_islands_0 20 rfl) rfl 2 rfl ?_
            refine k_aload_n C (dk dX11_islands_0 21 rfl) rfl 0 rfl ?_
            refine k_iload C (dk dX11_islands_0 22 rfl) 3 rfl ?_
            refine cl2_k h (fun x15 s14 hc h => ?_)
            refine k_cv (T := TX11) (N := 39) (ci := 6) (ob := 45) (As := [.int y4]) (st := [.long y3]) C (qX11_partWith l g hg hc) (iW18 _ (List.mem_of_getElem? (i := 4) rfl)) (iW18 _ (List.mem_of_getElem? (i := 5) rfl)) (iW18 _ (List.mem_of_getElem? (i := 6) rfl)) (iW0 _ (List.mem_of_getElem? (i := 5) rfl)) (iW18 _ (List.mem_of_getElem? (i := 7) rfl)) rfl rfl hdX11_partWith (by decide) rfl (by decide) rfl rfl rfl (Nat.le_of_ble_eq_true rfl) (dk dX11_islands_0 23 rfl) ?_
            refine k_lor C (dk dX11_islands_0 24 rfl) ?_
            refine nmL h (fun x16 h => ?_)
            refine k_lstore_n (lv' := [(2, .long x16), (0, .ref (g.2.2 45)), (1, .int y2), (4, .int y4)]) C (dk dX11_islands_0 25 rfl) rfl (by decide) rfl ?_
            refine k_iinc (lv' := [(1, .int (y2 + 1)), (2, .long x16), (0, .ref (g.2.2 45)), (4, .int y4)]) C (dk dX11_islands_0 26 rfl) (j := 2) rfl rfl (by decide) rfl ?_
            refine k_sub C [2, 0, 1, 3] rfl ?_
            exact hJ49 _ _ _ _ h
  ·
    refine k_sub C [3, 2, 1, 0] rfl ?_
    exact hJ12 _ _ _ _ h
set_option maxRecDepth 100000 in
set_option maxHeartbeats 4000000 in
theorem qX11_island (l : Launch) (g : G) (hg : gOK g) {a1 : Int32}  {s0 σe : St} {v : Int32} (h : mX11_island a1 s0 = some (v, σe)) : Mc l g yX11_island cX11_island 2 (some .int) { frames := 5, cells := 0, slots := 0, locals := 120 } [.ref (g.2.2 45), .int a1] s0 (some (.int v)) σe := by
  refine k_enter hg pnRX11 rfl (Nat.le_of_ble_eq_true rfl) ?_
  intro WK E
  have C := kX_y E
  unfold mX11_island at h
  show WK 0 [(0, .ref (g.2.2 45)), (1, .int a1)] [] s0
  refine k_aload_n C (dk dX11_island_0 0 rfl) rfl 0 rfl ?_
  refine k_iconst (v := (0 : Int32)) C (dk dX11_island_0 1 rfl) (by decide) ?_
  refine k_putI (D := RX11) (T := TX11) (N := 39) (ci := 6) (k := 16) C iCX11 tyX11_ok nmX11 rfl (by decide) rfl (by decide) (iW3 _ (List.mem_of_getElem? (i := 20) rfl)) rfl rfl flq6_16 flp6_16 (dk dX11_island_0 2 rfl) h (fun s1 h => ?_)
  refine k_iload_n C (dk dX11_island_0 3 rfl) rfl 1 rfl ?_
  refine k_i2l C (dk dX11_island_0 4 rfl) ?_
  refine cl2_k h (fun x3 s2 hc h => ?_)
  refine k_cs (As := [.long a1.toInt64]) (st := []) C (qX11_isCell l g hg hc) (iW11 _ (List.mem_of_getElem? (i := 21) rfl)) (iW11 _ (List.mem_of_getElem? (i := 22) rfl)) (iW0 _ (List.mem_of_getElem? (i := 5) rfl)) (iW11 _ (List.mem_of_getElem? (i := 23) rfl)) rfl rfl hdX11_isCell (by decide) rfl rfl (Nat.le_of_ble_eq_true rfl) (dk dX11_island_0 5 rfl) ?_
  refine k_if_ne (tgt := 15) C (dk dX11_island_0 6 rfl) (by decide) h (fun h => ?_) (fun h => ?_)
  ·
    refine k_aload_n C (dk dX11_island_0 9 rfl) rfl 0 rfl ?_
    refine k_iload_n C (dk dX11_island_0 10 rfl) rfl 1 rfl ?_
    refine cl2_k h (fun x5 s4 hc h => ?_)
    refine k_cv (T := TX11) (N := 39) (ci := 6) (ob := 45) (As := [.int a1]) (st := []) C (qX11_isOpen l g hg hc) (iW10 _ (List.mem_of_getElem? (i := 6) rfl)) (iW10 _ (List.mem_of_getElem? (i := 7) rfl)) (iW10 _ (List.mem_of_getElem? (i := 8) rfl)) (iW0 _ (List.mem_of_getElem? (i := 5) rfl)) (iW10 _ (List.mem_of_getElem? (i := 9) rfl)) rfl rfl hdX11_isOpen (by decide) rfl (by decide) rfl rfl rfl (Nat.le_of_ble_eq_true rfl) (dk dX11_island_0 11 rfl) ?_
    refine k_if_eq (tgt := 34) C (dk dX11_island_0 12 rfl) (by decide) h (fun h => ?_) (fun h => ?_)
    ·
      refine k_bipush (v := (-3 : Int32)) C (dk dX11_island_0 18 rfl) (by decide) ?_
      exact k_iret E (dk dX11_island_0 19 rfl) h
    ·
      refine k_aload_n C (dk dX11_island_0 13 rfl) rfl 0 rfl ?_
      refine k_iload_n C (dk dX11_island_0 14 rfl) rfl 1 rfl ?_
      refine cl2_k h (fun x7 s6 hc h => ?_)
      refine k_cv (T := TX11) (N := 39) (ci := 6) (ob := 45) (As := [.int a1]) (st := []) C (qX11_partWith l g hg hc) (iW18 _ (List.mem_of_getElem? (i := 4) rfl)) (iW18 _ (List.mem_of_getElem? (i := 5) rfl)) (iW18 _ (List.mem_of_getElem? (i := 6) rfl)) (iW0 _ (List.mem_of_getElem? (i := 5) rfl)) (iW18 _ (List.mem_of_getElem? (i := 7) rfl)) rfl rfl hdX11_partWith (by decide) rfl (by decide) rfl rfl rfl (Nat.le_of_ble_eq_true rfl) (dk dX11_island_0 15 rfl) ?_
      refine cl2_k h (fun x9 s8 hc h => ?_)
      refine k_cs (As := [.long x7]) (st := []) C (qX11_onesOf l g hg hc) (iW18 _ (List.mem_of_getElem? (i := 19) rfl)) (iW18 _ (List.mem_of_getElem? (i := 20) rfl)) (iW0 _ (List.mem_of_getElem? (i := 5) rfl)) (iW18 _ (List.mem_of_getElem? (i := 21) rfl)) rfl rfl hdX11_onesOf (by decide) rfl rfl (Nat.le_of_ble_eq_true rfl) (dk dX11_island_0 16 rfl) ?_
      refine k_goto (tgt := 36) C (dk dX11_island_0 17 rfl) (by decide) ?_
      exact k_iret E (dk dX11_island_0 19 rfl) h
  ·
    refine k_iconst (v := (-1 : Int32)) C (dk dX11_island_0 7 rfl) (by decide) ?_
    exact k_iret E (dk dX11_island_0 8 rfl) h
set_option maxRecDepth 100000 in
set_option maxHeartbeats 4000000 in
theorem qX11_middle (l : Launch) (g : G) (hg : gOK g) {a1 : Int32}  {s0 σe : St} {v : Int32} (h : mX11_middle a1 s0 = some (v, σe)) : Mc l g yX11_middle cX11_middle 9 (some .int) { frames := 5, cells := 0, slots := 0, locals := 120 } [.ref (g.2.2 45), .int a1] s0 (some (.int v)) σe := by
  refine k_enter hg pnRX11 rfl (Nat.le_of_ble_eq_true rfl) ?_
  intro WK E
  have C := kX_y E
  unfold mX11_middle at h
  show WK 0 [(0, .ref (g.2.2 45)), (1, .int a1)] [] s0
  refine k_aload_n C (dk dX11_middle_0 0 rfl) rfl 0 rfl ?_
  refine k_iconst (v := (0 : Int32)) C (dk dX11_middle_0 1 rfl) (by decide) ?_
  refine k_putI (D := RX11) (T := TX11) (N := 39) (ci := 6) (k := 16) C iCX11 tyX11_ok nmX11 rfl (by decide) rfl (by decide) (iW3 _ (List.mem_of_getElem? (i := 20) rfl)) rfl rfl flq6_16 flp6_16 (dk dX11_middle_0 2 rfl) h (fun s1 h => ?_)
  refine k_iload_n C (dk dX11_middle_0 3 rfl) rfl 1 rfl ?_
  refine k_i2l C (dk dX11_middle_0 4 rfl) ?_
  refine k_lconst (v := (0 : Int64)) C (dk dX11_middle_0 5 rfl) (by decide) ?_
  refine k_lconst (v := (1 : Int64)) C (dk dX11_middle_0 6 rfl) (by decide) ?_
  refine cl2_k h (fun x3 s2 hc h => ?_)
  refine k_cs (As := [.long a1.toInt64, .long (0 : Int64), .long (1 : Int64)]) (st := []) C (qX11_in l g hg hc) (iW8 _ (List.mem_of_getElem? (i := 16) rfl)) (iW8 _ (List.mem_of_getElem? (i := 17) rfl)) (iW0 _ (List.mem_of_getElem? (i := 5) rfl)) (iW8 _ (List.mem_of_getElem? (i := 18) rfl)) rfl rfl hdX11_in (by decide) rfl rfl (Nat.le_of_ble_eq_true rfl) (dk dX11_middle_0 7 rfl) ?_
  refine k_if_ne (tgt := 17) C (dk dX11_middle_0 8 rfl) (by decide) h (fun h => ?_) (fun h => ?_)
  ·
    refine k_lconst (v := (0 : Int64)) C (dk dX11_middle_0 11 rfl) (by decide) ?_
    refine k_lstore_n (lv' := [(2, .long (0 : Int64)), (0, .ref (g.2.2 45)), (1, .int a1)]) C (dk dX11_middle_0 12 rfl) rfl (by decide) rfl ?_
    refine k_iconst (v := (0 : Int32)) C (dk dX11_middle_0 13 rfl) (by decide) ?_
    refine k_istore (lv' := [(4, .int (0 : Int32)), (2, .long (0 : Int64)), (0, .ref (g.2.2 45)), (1, .int a1)]) C (dk dX11_middle_0 14 rfl) (by decide) rfl ?_
    refine kl_L (P := (fun J22 => ∀ (y4 : Int64) (y5 : Int32) (s6 : St), J22 y4 y5 s6 = some (v, σe) → WK 22 [(0, .ref (g.2.2 45)), (1, .int a1), (2, .long y4), (4, .int y5)] [] s6)) h (fun _ _ _ h => nomatch h) (fun J22 hJ22 y4 y5 s6 h => ?_) (fun J22 hJ22 h => ?_)
    ·
      unfold mX11_middle_22 at h
      refine k_iload C (dk dX11_middle_0 15 rfl) 3 rfl ?_
      refine k_bipush (v := (36 : Int32)) C (dk dX11_middle_0 16 rfl) (by decide) ?_
      refine k_icmp_ge (tgt := 62) C (dk dX11_middle_0 17 rfl) (by decide) h (fun h => ?_) (fun h => ?_)
      ·
        refine k_bipush (v := (-4 : Int32)) C (dk dX11_middle_1 1 rfl) (by decide) ?_
        refine k_istore (lv' := [(4, .int (-4 : Int32)), (0, .ref (g.2.2 45)), (1, .int a1), (2, .long y4)]) C (dk dX11_middle_1 2 rfl) (by decide) rfl ?_
        refine k_bipush (v := (-4 : Int32)) C (dk dX11_middle_1 3 rfl) (by decide) ?_
        refine k_istore (lv' := [(5, .int (-4 : Int32)), (4, .int (-4 : Int32)), (0, .ref (g.2.2 45)), (1, .int a1), (2, .long y4)]) C (dk dX11_middle_1 4 rfl) (by decide) rfl ?_
        refine k_iconst (v := (0 : Int32)) C (dk dX11_middle_1 5 rfl) (by decide) ?_
        refine k_istore (lv' := [(6, .int (0 : Int32)), (5, .int (-4 : Int32)), (4, .int (-4 : Int32)), (0, .ref (g.2.2 45)), (1, .int a1), (2, .long y4)]) C (dk dX11_middle_1 6 rfl) (by decide) rfl ?_
        refine kl_L (P := (fun J73 => ∀ (y7 : Int32) (y8 : Int32) (y9 : Int32) (s10 : St), J73 y7 y8 y9 s10 = some (v, σe) → WK 73 [(0, .ref (g.2.2 45)), (1, .int a1), (2, .long y4), (4, .int y7), (5, .int y8), (6, .int y9)] [] s10)) h (fun _ _ _ _ h => nomatch h) (fun J73 hJ73 y7 y8 y9 s10 h => ?_) (fun J73 hJ73 h => ?_)
        ·
          unfold mX11_middle_73 at h
          refine k_iload C (dk dX11_middle_1 7 rfl) 5 rfl ?_
          refine k_bipush (v := (36 : Int32)) C (dk dX11_middle_1 8 rfl) (by decide) ?_
          refine k_icmp_ge (tgt := 205) C (dk dX11_middle_1 9 rfl) (by decide) h (fun h => ?_) (fun h => ?_)
          ·
            refine k_iload_n C (dk dX11_middle_3 4 rfl) rfl 1 rfl ?_
            refine k_if_ne (tgt := 214) C (dk dX11_middle_3 5 rfl) (by decide) h (fun h => ?_) (fun h => ?_)
            ·
              refine k_iload C (dk dX11_middle_3 8 rfl) 4 rfl ?_
              exact k_iret E (dk dX11_middle_3 9 rfl) h
            ·
              refine k_iload C (dk dX11_middle_3 6 rfl) 3 rfl ?_
              refine k_goto (tgt := 216) C (dk dX11_middle_3 7 rfl) (by decide) ?_
              exact k_iret E (dk dX11_middle_3 9 rfl) h
          ·
            refine k_lload_n C (dk dX11_middle_1 10 rfl) rfl 2 rfl ?_
            refine k_iload C (dk dX11_middle_1 11 rfl) 5 rfl ?_
            refine cl2_k h (fun x12 s11 hc h => ?_)
            refine k_cs (As := [.long y4, .int y9]) (st := []) C (qX11_isOn l g hg hc) (iW15 _ (List.mem_of_getElem? (i := 12) rfl)) (iW15 _ (List.mem_of_getElem? (i := 13) rfl)) (iW0 _ (List.mem_of_getElem? (i := 5) rfl)) (iW15 _ (List.mem_of_getElem? (i := 14) rfl)) rfl rfl hdX11_isOn (by decide) rfl rfl (Nat.le_of_ble_eq_true rfl) (dk dX11_middle_1 12 rfl) ?_
            refine kl_J (P := (fun J199 => ∀ (y13 : Int32) (y14 : Int32) (y15 : Int32) (s16 : St), J199 y13 y14 y15 s16 = some (v, σe) → WK 199 [(0, .ref (g.2.2 45)), (1, .int a1), (2, .long y4), (4, .int y13), (5, .int y14), (6, .int y15)] [] s16)) h (fun y13 y14 y15 s16 h => ?_) (fun J199 hJ199 h => ?_)
            ·
              unfold mX11_middle_199 at h
              refine k_iinc (lv' := [(6, .int (y15 + 1)), (0, .ref (g.2.2 45)), (1, .int a1), (2, .long y4), (4, .int y13), (5, .int y14)]) C (dk dX11_middle_3 2 rfl) (j := 5) rfl rfl (by decide) rfl ?_
              refine k_goto (tgt := 73) C (dk dX11_middle_3 3 rfl) (by decide) ?_
              refine k_sub C [1, 2, 3, 4, 5, 0] rfl ?_
              exact hJ73 _ _ _ _ h
            ·
              refine k_if_eq (tgt := 199) C (dk dX11_middle_1 13 rfl) (by decide) h (fun h => ?_) (fun h => ?_)
              ·
                exact hJ199 _ _ _ _ h
              ·
                refine k_aload_n C (dk dX11_middle_1 14 rfl) rfl 0 rfl ?_
                refine k_iload C (dk dX11_middle_1 15 rfl) 5 rfl ?_
                refine cl1_k h (fun s17 hc h => ?_)
                refine k_cv (T := TX11) (N := 39) (ci := 6) (ob := 45) (As := [.int y9]) (st := []) C (qX11_layStepsFrom l g hg hc) (iW15 _ (List.mem_of_getElem? (i := 4) rfl)) (iW15 _ (List.mem_of_getElem? (i := 5) rfl)) (iW15 _ (List.mem_of_getElem? (i := 6) rfl)) (iW0 _ (List.mem_of_getElem? (i := 5) rfl)) (iW15 _ (List.mem_of_getElem? (i := 7) rfl)) rfl rfl hdX11_layStepsFrom (by decide) rfl (by decide) rfl rfl rfl (Nat.le_of_ble_eq_true rfl) (dk dX11_middle_1 16 rfl) ?_
                refine k_iconst (v := (0 : Int32)) C (dk dX11_middle_1 17 rfl) (by decide) ?_
                refine k_istore (lv' := [(7, .int (0 : Int32)), (0, .ref (g.2.2 45)), (1, .int a1), (2, .long y4), (4, .int y7), (5, .int y8), (6, .int y9)]) C (dk dX11_middle_1 18 rfl) (by decide) rfl ?_
                refine k_iconst (v := (0 : Int32)) C (dk dX11_middle_1 19 rfl) (by decide) ?_
                refine k_istore (lv' := [(8, .int (0 : Int32)), (7, .int (0 : Int32)), (0, .ref (g.2.2 45)), (1, .int a1), (2, .long y4), (4, .int y7), (5, .int y8), (6, .int y9)]) C (dk dX11_middle_1 20 rfl) (by decide) rfl ?_
                refine kl_L (P := (fun J101 => ∀ (y18 : Int32) (y19 : Int32) (s20 : St), J101 y18 y19 s20 = some (v, σe) → WK 101 [(0, .ref (g.2.2 45)), (1, .int a1), (2, .long y4), (4, .int y7), (5, .int y8), (6, .int y9), (7, .int y18), (8, .int y19)] [] s20)) h (fun _ _ _ h => nomatch h) (fun J101 hJ101 y18 y19 s20 h => ?_) (fun J101 hJ101 h => ?_)
                ·
                  unfold mX11_middle_101 at h
                  refine k_iload C (dk dX11_middle_1 21 rfl) 7 rfl ?_
                  refine k_bipush (v := (36 : Int32)) C (dk dX11_middle_1 22 rfl) (by decide) ?_
                  refine k_icmp_ge (tgt := 152) C (dk dX11_middle_1 23 rfl) (by decide) h (fun h => ?_) (fun h => ?_)
                  ·
                    refine k_iload C (dk dX11_middle_2 13 rfl) 3 rfl ?_
                    refine kl_J (P := (fun J169 => ∀ (y21 : Int32) (s22 : St), J169 y21 s22 = some (v, σe) → WK 169 [(0, .ref (g.2.2 45)), (1, .int a1), (2, .long y4), (4, .int y7), (5, .int y8), (6, .int y9), (7, .int y18)] [.int y21] s22)) h (fun y21 s22 h => ?_) (fun J169 hJ169 h => ?_)
                    ·
                      unfold mX11_middle_169 at h
                      refine k_istore (lv' := [(8, .int y21), (0, .ref (g.2.2 45)), (1, .int a1), (2, .long y4), (4, .int y7), (5, .int y8), (6, .int y9), (7, .int y18)]) C (dk dX11_middle_2 21 rfl) (by decide) rfl ?_
                      refine k_iload C (dk dX11_middle_2 22 rfl) 0 rfl ?_
                      refine kl_J (P := (fun J183 => ∀ (y23 : Int32) (s24 : St), J183 y23 s24 = some (v, σe) → WK 183 [(0, .ref (g.2.2 45)), (1, .int a1), (2, .long y4), (5, .int y8), (6, .int y9), (7, .int y18), (8, .int y21)] [.int y23] s24)) h (fun y23 s24 h => ?_) (fun J183 hJ183 h => ?_)
                      ·
                        unfold mX11_middle_183 at h
                        refine k_istore (lv' := [(4, .int y23), (0, .ref (g.2.2 45)), (1, .int a1), (2, .long y4), (5, .int y8), (6, .int y9), (7, .int y18), (8, .int y21)]) C (dk dX11_middle_2 27 rfl) (by decide) rfl ?_
                        refine k_iload C (dk dX11_middle_2 28 rfl) 7 rfl ?_
                        refine kl_J (P := (fun J197 => ∀ (y25 : Int32) (s26 : St), J197 y25 s26 = some (v, σe) → WK 197 [(0, .ref (g.2.2 45)), (1, .int a1), (2, .long y4), (4, .int y23), (6, .int y9)] [.int y25] s26)) h (fun y25 s26 h => ?_) (fun J197 hJ197 h => ?_)
                        ·
                          unfold mX11_middle_197 at h
                          refine k_istore (lv' := [(5, .int y25), (0, .ref (g.2.2 45)), (1, .int a1), (2, .long y4), (4, .int y23), (6, .int y9)]) C (dk dX11_middle_3 1 rfl) (by decide) rfl ?_
                          refine k_sub C [1, 2, 3, 4, 0, 5] rfl ?_
                          exact hJ199 _ _ _ _ h
                        ·
                          refine k_if_eq (tgt := 195) C (dk dX11_middle_2 29 rfl) (by decide) h (fun h => ?_) (fun h => ?_)
                          ·
                            refine k_iload C (dk dX11_middle_3 0 rfl) 4 rfl ?_
                            refine k_sub C [1, 2, 3, 0, 5] rfl ?_
                            exact hJ197 _ _ h
                          ·
                            refine k_iload C (dk dX11_middle_2 30 rfl) 6 rfl ?_
                            refine k_goto (tgt := 197) C (dk dX11_middle_2 31 rfl) (by decide) ?_
                            refine k_sub C [1, 2, 3, 0, 5] rfl ?_
                            exact hJ197 _ _ h
                      ·
                        refine k_if_eq (tgt := 181) C (dk dX11_middle_2 23 rfl) (by decide) h (fun h => ?_) (fun h => ?_)
                        ·
                          refine k_iload C (dk dX11_middle_2 26 rfl) 4 rfl ?_
                          refine k_sub C [1, 2, 3, 5, 6, 7, 0] rfl ?_
                          exact hJ183 _ _ h
                        ·
                          refine k_iload C (dk dX11_middle_2 24 rfl) 6 rfl ?_
                          refine k_goto (tgt := 183) C (dk dX11_middle_2 25 rfl) (by decide) ?_
                          refine k_sub C [1, 2, 3, 5, 6, 7, 0] rfl ?_
                          exact hJ183 _ _ h
                    ·
                      refine kl_J (P := (fun J164 => ∀ (s27 : St), J164 s27 = some (v, σe) → WK 164 [(0, .ref (g.2.2 45)), (1, .int a1), (2, .long y4), (4, .int y7), (5, .int y8), (6, .int y9), (7, .int y18)] [] s27)) h (fun s27 h => ?_) (fun J164 hJ164 h => ?_)
                      ·
                        unfold mX11_middle_164 at h
                        refine k_iconst (v := (1 : Int32)) C (dk dX11_middle_2 18 rfl) (by decide) ?_
                        refine k_goto (tgt := 169) C (dk dX11_middle_2 19 rfl) (by decide) ?_
                        exact hJ169 _ _ h
                      ·
                        refine k_if_lt (tgt := 164) C (dk dX11_middle_2 14 rfl) (by decide) h (fun h => ?_) (fun h => ?_)
                        ·
                          refine k_sub C [0, 1, 2, 3, 4, 5, 6] rfl ?_
                          exact hJ164 _ h
                        ·
                          refine k_iload C (dk dX11_middle_2 15 rfl) 6 rfl ?_
                          refine k_iload C (dk dX11_middle_2 16 rfl) 4 rfl ?_
                          refine k_icmp_ge (tgt := 168) C (dk dX11_middle_2 17 rfl) (by decide) h (fun h => ?_) (fun h => ?_)
                          ·
                            refine k_iconst (v := (0 : Int32)) C (dk dX11_middle_2 20 rfl) (by decide) ?_
                            refine k_sub C [0, 1, 2, 3, 4, 5, 6] rfl ?_
                            exact hJ169 _ _ h
                          ·
                            refine k_sub C [0, 1, 2, 3, 4, 5, 6] rfl ?_
                            exact hJ164 _ h
                  ·
                    refine k_aload_n C (dk dX11_middle_1 24 rfl) rfl 0 rfl ?_
                    refine k_getR (q := 59) (D := RX11) (T := TX11) (N := 39) (ci := 6) (k := 31) C iCX11 rfl (by decide) rfl (by decide) (iW3 _ (List.mem_of_getElem? (i := 13) rfl)) rfl (dk dX11_middle_1 25 rfl) ?_
                    refine k_iload C (dk dX11_middle_1 26 rfl) 7 rfl ?_
                    refine k_iald C rfl rfl (dk dX11_middle_1 27 rfl) h (fun x28 h => ?_)
                    refine k_bipush (v := (99 : Int32)) C (dk dX11_middle_1 28 rfl) (by decide) ?_
                    refine kl_J (P := (fun J144 => ∀ (y29 : Int32) (s30 : St), J144 y29 s30 = some (v, σe) → WK 144 [(0, .ref (g.2.2 45)), (1, .int a1), (2, .long y4), (4, .int y7), (5, .int y8), (6, .int y9), (8, .int y19)] [.int y29] s30)) h (fun y29 s30 h => ?_) (fun J144 hJ144 h => ?_)
                    ·
                      unfold mX11_middle_144 at h
                      refine k_istore (lv' := [(7, .int y29), (0, .ref (g.2.2 45)), (1, .int a1), (2, .long y4), (4, .int y7), (5, .int y8), (6, .int y9), (8, .int y19)]) C (dk dX11_middle_2 10 rfl) (by decide) rfl ?_
                      refine k_iinc (lv' := [(8, .int (y19 + 1)), (7, .int y29), (0, .ref (g.2.2 45)), (1, .int a1), (2, .long y4), (4, .int y7), (5, .int y8), (6, .int y9)]) C (dk dX11_middle_2 11 rfl) (j := 7) rfl rfl (by decide) rfl ?_
                      refine k_goto (tgt := 101) C (dk dX11_middle_2 12 rfl) (by decide) ?_
                      refine k_sub C [2, 3, 4, 5, 6, 7, 1, 0] rfl ?_
                      exact hJ101 _ _ _ h
                    ·
                      refine kl_J (P := (fun J142 => ∀ (s31 : St), J142 s31 = some (v, σe) → WK 142 [(0, .ref (g.2.2 45)), (1, .int a1), (2, .long y4), (4, .int y7), (5, .int y8), (6, .int y9), (7, .int y18), (8, .int y19)] [] s31)) h (fun s31 h => ?_) (fun J142 hJ142 h => ?_)
                      ·
                        unfold mX11_middle_142 at h
                        refine k_iload C (dk dX11_middle_2 9 rfl) 6 rfl ?_
                        refine k_sub C [0, 1, 2, 3, 4, 5, 7] rfl ?_
                        exact hJ144 _ _ h
                      ·
                        refine k_icmp_ge (tgt := 142) C (dk dX11_middle_1 29 rfl) (by decide) h (fun h => ?_) (fun h => ?_)
                        ·
                          exact hJ142 _ h
                        ·
                          refine k_aload_n C (dk dX11_middle_1 30 rfl) rfl 0 rfl ?_
                          refine k_getR (q := 59) (D := RX11) (T := TX11) (N := 39) (ci := 6) (k := 31) C iCX11 rfl (by decide) rfl (by decide) (iW3 _ (List.mem_of_getElem? (i := 13) rfl)) rfl (dk dX11_middle_1 31 rfl) ?_
                          refine k_iload C (dk dX11_middle_2 0 rfl) 7 rfl ?_
                          refine k_iald C rfl rfl (dk dX11_middle_2 1 rfl) h (fun x32 h => ?_)
                          refine k_iload C (dk dX11_middle_2 2 rfl) 6 rfl ?_
                          refine k_icmp_le (tgt := 142) C (dk dX11_middle_2 3 rfl) (by decide) h (fun h => ?_) (fun h => ?_)
                          ·
                            exact hJ142 _ h
                          ·
                            refine k_aload_n C (dk dX11_middle_2 4 rfl) rfl 0 rfl ?_
                            refine k_getR (q := 59) (D := RX11) (T := TX11) (N := 39) (ci := 6) (k := 31) C iCX11 rfl (by decide) rfl (by decide) (iW3 _ (List.mem_of_getElem? (i := 13) rfl)) rfl (dk dX11_middle_2 5 rfl) ?_
                            refine k_iload C (dk dX11_middle_2 6 rfl) 7 rfl ?_
                            refine k_iald C rfl rfl (dk dX11_middle_2 7 rfl) h (fun x33 h => ?_)
                            refine k_goto (tgt := 144) C (dk dX11_middle_2 8 rfl) (by decide) ?_
                            refine k_sub C [0, 1, 2, 3, 4, 5, 7] rfl ?_
                            exact hJ144 _ _ h
                ·
                  refine k_sub C [2, 3, 4, 5, 6, 7, 1, 0] rfl ?_
                  exact hJ101 _ _ _ h
        ·
          refine k_sub C [3, 4, 5, 2, 1, 0] rfl ?_
          exact hJ73 _ _ _ _ h
      ·
        refine k_aload_n C (dk dX11_middle_0 18 rfl) rfl 0 rfl ?_
        refine k_iload C (dk dX11_middle_0 19 rfl) 3 rfl ?_
        refine cl2_k h (fun x35 s34 hc h => ?_)
        refine k_cv (T := TX11) (N := 39) (ci := 6) (ob := 45) (As := [.int y5]) (st := []) C (qX11_partWith l g hg hc) (iW18 _ (List.mem_of_getElem? (i := 4) rfl)) (iW18 _ (List.mem_of_getElem? (i := 5) rfl)) (iW18 _ (List.mem_of_getElem? (i := 6) rfl)) (iW0 _ (List.mem_of_getElem? (i := 5) rfl)) (iW18 _ (List.mem_of_getElem? (i := 7) rfl)) rfl rfl hdX11_partWith (by decide) rfl (by decide) rfl rfl rfl (Nat.le_of_ble_eq_true rfl) (dk dX11_middle_0 20 rfl) ?_
        refine k_lstore (lv' := [(5, .long x35), (0, .ref (g.2.2 45)), (1, .int a1), (2, .long y4), (4, .int y5)]) C (dk dX11_middle_0 21 rfl) (by decide) rfl ?_
        refine k_lload C (dk dX11_middle_0 22 rfl) 0 rfl ?_
        refine cl2_k h (fun x37 s36 hc h => ?_)
        refine k_cs (As := [.long x35]) (st := []) C (qX11_onesOf l g hg hc) (iW18 _ (List.mem_of_getElem? (i := 19) rfl)) (iW18 _ (List.mem_of_getElem? (i := 20) rfl)) (iW0 _ (List.mem_of_getElem? (i := 5) rfl)) (iW18 _ (List.mem_of_getElem? (i := 21) rfl)) rfl rfl hdX11_onesOf (by decide) rfl rfl (Nat.le_of_ble_eq_true rfl) (dk dX11_middle_0 23 rfl) ?_
        refine k_lload_n C (dk dX11_middle_0 24 rfl) rfl 3 rfl ?_
        refine cl2_k h (fun x39 s38 hc h => ?_)
        refine k_cs (As := [.long y4]) (st := [.int x37]) C (qX11_onesOf l g hg hc) (iW18 _ (List.mem_of_getElem? (i := 19) rfl)) (iW18 _ (List.mem_of_getElem? (i := 20) rfl)) (iW0 _ (List.mem_of_getElem? (i := 5) rfl)) (iW18 _ (List.mem_of_getElem? (i := 21) rfl)) rfl rfl hdX11_onesOf (by decide) rfl rfl (Nat.le_of_ble_eq_true rfl) (dk dX11_middle_0 25 rfl) ?_
        refine kl_J (P := (fun J55 => ∀ (y40 : Int64) (s41 : St), J55 y40 s41 = some (v, σe) → WK 55 [(0, .ref (g.2.2 45)), (1, .int a1), (4, .int y5)] [.long y40] s41)) h (fun y40 s41 h => ?_) (fun J55 hJ55 h => ?_)
        ·
          unfold mX11_middle_55 at h
          refine k_lstore_n (lv' := [(2, .long y40), (0, .ref (g.2.2 45)), (1, .int a1), (4, .int y5)]) C (dk dX11_middle_0 30 rfl) rfl (by decide) rfl ?_
          refine k_iinc (lv' := [(4, .int (y5 + 1)), (2, .long y40), (0, .ref (g.2.2 45)), (1, .int a1)]) C (dk dX11_middle_0 31 rfl) (j := 3) rfl rfl (by decide) rfl ?_
          refine k_goto (tgt := 22) C (dk dX11_middle_1 0 rfl) (by decide) ?_
          refine k_sub C [2, 3, 1, 0] rfl ?_
          exact hJ22 _ _ _ h
        ·
          refine k_icmp_le (tgt := 54) C (dk dX11_middle_0 26 rfl) (by decide) h (fun h => ?_) (fun h => ?_)
          ·
            refine k_lload_n C (dk dX11_middle_0 29 rfl) rfl 3 rfl ?_
            refine k_sub C [1, 2, 4] rfl ?_
            exact hJ55 _ _ h
          ·
            refine k_lload C (dk dX11_middle_0 27 rfl) 0 rfl ?_
            refine k_goto (tgt := 55) C (dk dX11_middle_0 28 rfl) (by decide) ?_
            refine k_sub C [1, 2, 4] rfl ?_
            exact hJ55 _ _ h
    ·
      refine k_sub C [2, 3, 1, 0] rfl ?_
      exact hJ22 _ _ _ h
  ·
    refine k_iconst (v := (-1 : Int32)) C (dk dX11_middle_0 9 rfl) (by decide) ?_
    exact k_iret E (dk dX11_middle_0 10 rfl) h
