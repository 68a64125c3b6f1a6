set_option maxRecDepth 100000 in
set_option maxHeartbeats 4000000 in
theorem qX10_isCell (l : Launch) (g : G) (hg : gOK g) {a0 : Int64}  {s0 σe : St} {v : Int32} (h : mX10_isCell a0 s0 = some (v, σe)) : Mc l g yX10_isCell cX10_isCell 2 (some .boolean) { frames := 0, cells := 0, slots := 0, locals := 0 } [.long a0] s0 (some (.int v)) σe := by
  refine k_enter hg pnRX10 rfl (Nat.le_of_ble_eq_true rfl) ?_
  intro WK E
  have C := kX_y E
  unfold mX10_isCell at h
  show WK 0 [(0, .long a0)] [] s0
  refine k_lload_n C (dk dX10_isCell_0 0 rfl) rfl 0 rfl ?_
  refine k_lconst (v := (0 : Int64)) C (dk dX10_isCell_0 1 rfl) (by decide) ?_
  refine k_lcmp C (dk dX10_isCell_0 2 rfl) ?_
  refine k_if_lt (tgt := 18) C (dk dX10_isCell_0 3 rfl) (by decide) h (fun h => ?_) (fun h => ?_)
  ·
    refine k_iconst (v := (0 : Int32)) C (dk dX10_isCell_0 10 rfl) (by decide) ?_
    exact k_zret E (dk dX10_isCell_0 11 rfl) h
  ·
    refine k_lload_n C (dk dX10_isCell_0 4 rfl) rfl 0 rfl ?_
    refine k_ldc2 (v := (36 : Int64)) C (dk dX10_isCell_0 5 rfl) (iW5 _ (List.mem_of_getElem? (i := 22) rfl)) ?_
    refine k_lcmp C (dk dX10_isCell_0 6 rfl) ?_
    refine k_if_ge (tgt := 18) C (dk dX10_isCell_0 7 rfl) (by decide) h (fun h => ?_) (fun h => ?_)
    ·
      refine k_iconst (v := (0 : Int32)) C (dk dX10_isCell_0 10 rfl) (by decide) ?_
      exact k_zret E (dk dX10_isCell_0 11 rfl) h
    ·
      refine k_iconst (v := (1 : Int32)) C (dk dX10_isCell_0 8 rfl) (by decide) ?_
      refine k_goto (tgt := 19) C (dk dX10_isCell_0 9 rfl) (by decide) ?_
      exact k_zret E (dk dX10_isCell_0 11 rfl) h
set_option maxRecDepth 100000 in
set_option maxHeartbeats 4000000 in
theorem qX2_heightOf (l : Launch) (g : G) (hg : gOK g) {a0 : Int32} {a1 : Int32}  {s0 σe : St} {v : Int32} (h : mX2_heightOf a0 a1 s0 = some (v, σe)) : Mc l g yX2_heightOf cX2_heightOf 2 (some .int) { frames := 0, cells := 0, slots := 0, locals := 0 } [.int a0, .int a1] s0 (some (.int v)) σe := by
  refine k_enter hg pnRX2 rfl (Nat.le_of_ble_eq_true rfl) ?_
  intro WK E
  have C := kX_y E
  unfold mX2_heightOf at h
  show WK 0 [(0, .int a0), (1, .int a1)] [] s0
  refine k_iload_n C (dk dX2_heightOf_0 0 rfl) rfl 0 rfl ?_
  by_cases e0 : a0 = (2 : Int32)
  · replace h := (if_pos e0).symm.trans h
    refine k_tsIn (q := (2 : Int32)) (tgt := 36) C (dk dX2_heightOf_0 1 rfl) (by decide) (by decide) rfl (by decide) e0 ?_
    refine k_iconst (v := (2 : Int32)) C (dk dX2_heightOf_0 2 rfl) (by decide) ?_
    exact k_iret E (dk dX2_heightOf_0 3 rfl) h
  replace h := (if_neg e0).symm.trans h
  by_cases e1 : a0 = (3 : Int32)
  · replace h := (if_pos e1).symm.trans h
    refine k_tsIn (q := (3 : Int32)) (tgt := 38) C (dk dX2_heightOf_0 1 rfl) (by decide) (by decide) rfl (by decide) e1 ?_
    refine k_iconst (v := (2 : Int32)) C (dk dX2_heightOf_0 4 rfl) (by decide) ?_
    refine k_iload_n C (dk dX2_heightOf_0 5 rfl) rfl 1 rfl ?_
    refine k_iadd C (dk dX2_heightOf_0 6 rfl) ?_
    exact k_iret E (dk dX2_heightOf_0 7 rfl) h
  replace h := (if_neg e1).symm.trans h
  by_cases e2 : a0 = (4 : Int32)
  · replace h := (if_pos e2).symm.trans h
    refine k_tsIn (q := (4 : Int32)) (tgt := 42) C (dk dX2_heightOf_0 1 rfl) (by decide) (by decide) rfl (by decide) e2 ?_
    refine k_iconst (v := (2 : Int32)) C (dk dX2_heightOf_0 8 rfl) (by decide) ?_
    refine k_iload_n C (dk dX2_heightOf_0 9 rfl) rfl 1 rfl ?_
    refine k_iadd C (dk dX2_heightOf_0 10 rfl) ?_
    refine k_iconst (v := (2 : Int32)) C (dk dX2_heightOf_0 11 rfl) (by decide) ?_
    refine k_idiv C (dk dX2_heightOf_0 12 rfl) (by decide) ?_
    exact k_iret E (dk dX2_heightOf_0 13 rfl) h
  replace h := (if_neg e2).symm.trans h
  by_cases e4 : a0 = (6 : Int32)
  · replace h := (if_pos e4).symm.trans h
    refine k_tsIn (q := (6 : Int32)) (tgt := 48) C (dk dX2_heightOf_0 1 rfl) (by decide) (by decide) rfl (by decide) e4 ?_
    refine k_iconst (v := (1 : Int32)) C (dk dX2_heightOf_0 14 rfl) (by decide) ?_
    exact k_iret E (dk dX2_heightOf_0 15 rfl) h
  replace h := (if_neg e4).symm.trans h
  by_cases f5 : a0 = (5 : Int32)
  · refine k_tsIn (q := (5 : Int32)) (tgt := 50) C (dk dX2_heightOf_0 1 rfl) (by decide) (by decide) rfl (by decide) f5 ?_
    refine k_iconst (v := (0 : Int32)) C (dk dX2_heightOf_0 16 rfl) (by decide) ?_
    exact k_iret E (dk dX2_heightOf_0 17 rfl) h
  refine k_tsOut (tgt := 50) C (dk dX2_heightOf_0 1 rfl) (by have n0 : a0.toInt ≠ 2 := fun q => e0 (Int32.toInt_inj.mp (q.trans (by decide))); have n1 : a0.toInt ≠ 3 := fun q => e1 (Int32.toInt_inj.mp (q.trans (by decide))); have n2 : a0.toInt ≠ 4 := fun q => e2 (Int32.toInt_inj.mp (q.trans (by decide))); have n3 : a0.toInt ≠ 5 := fun q => f5 (Int32.toInt_inj.mp (q.trans (by decide))); have n4 : a0.toInt ≠ 6 := fun q => e4 (Int32.toInt_inj.mp (q.trans (by decide))); omega) (by decide) ?_
  refine k_iconst (v := (0 : Int32)) C (dk dX2_heightOf_0 16 rfl) (by decide) ?_
  exact k_iret E (dk dX2_heightOf_0 17 rfl) h
set_option maxRecDepth 100000 in
set_option maxHeartbeats 4000000 in
theorem qX3_heightAt (l : Launch) (g : G) (hg : gOK g) {o0 : Nat} {a1 : Int32} (ho0 : kd o0 = 1) {s0 σe : St} {v : Int32} (h : mX3_heightAt o0 a1 s0 = some (v, σe)) : Mc l g yX3_heightAt cX3_heightAt 2 (some .int) { frames := 1, cells := 0, slots := 0, locals := 21 } [.ref (g.2.2 o0), .int a1] s0 (some (.int v)) σe := by
  refine k_enter hg pnRX3 rfl (Nat.le_of_ble_eq_true rfl) ?_
  intro WK E
  have C := kX_y E
  unfold mX3_heightAt at h
  show WK 0 [(0, .ref (g.2.2 o0)), (1, .int a1)] [] s0
  refine k_iload_n C (dk dX3_heightAt_0 0 rfl) rfl 1 rfl ?_
  refine k_i2l C (dk dX3_heightAt_0 1 rfl) ?_
  refine cl2_k h (fun x2 s1 hc h => ?_)
  refine k_cn (As := [.long a1.toInt64]) (st := []) C (qX10_isCell l g hg hc) (iW5 _ (List.mem_of_getElem? (i := 21) rfl)) rfl rfl (List.mem_of_getElem? (i := 1) rfl) (iW5 _ (List.mem_of_getElem? (i := 20) rfl)) (iW0 _ (List.mem_of_getElem? (i := 2) rfl)) hdX10_isCell (by decide) rfl rfl (Nat.le_of_ble_eq_true rfl) (dk dX3_heightAt_0 2 rfl) ?_
  refine k_if_eq (tgt := 26) C (dk dX3_heightAt_0 3 rfl) (by decide) h (fun h => ?_) (fun h => ?_)
  ·
    refine k_iconst (v := (0 : Int32)) C (dk dX3_heightAt_0 14 rfl) (by decide) ?_
    exact k_iret E (dk dX3_heightAt_0 15 rfl) h
  ·
    refine k_aload_n C (dk dX3_heightAt_0 4 rfl) rfl 0 rfl ?_
    refine k_getR (q := (o0 + 3)) (D := RX3) (T := TX3) (N := 10) (ci := 1) (k := 0) C iCX3 ho0 (by decide) rfl (by decide) (iW1 _ (List.mem_of_getElem? (i := 10) rfl)) rfl (dk dX3_heightAt_0 5 rfl) ?_
    refine k_iload_n C (dk dX3_heightAt_0 6 rfl) rfl 1 rfl ?_
    refine k_iald C (kd_L3 ho0) (ln_L3 ho0) (dk dX3_heightAt_0 7 rfl) h (fun x3 h => ?_)
    refine k_aload_n C (dk dX3_heightAt_0 8 rfl) rfl 0 rfl ?_
    refine k_getR (q := (o0 + 6)) (D := RX3) (T := TX3) (N := 10) (ci := 1) (k := 1) C iCX3 ho0 (by decide) rfl (by decide) (iW1 _ (List.mem_of_getElem? (i := 11) rfl)) rfl (dk dX3_heightAt_0 9 rfl) ?_
    refine k_iload_n C (dk dX3_heightAt_0 10 rfl) rfl 1 rfl ?_
    refine k_iald C (kd_L6 ho0) (ln_L6 ho0) (dk dX3_heightAt_0 11 rfl) h (fun x4 h => ?_)
    refine cl2_k h (fun x6 s5 hc h => ?_)
    refine k_cs (As := [.int x3, .int x4]) (st := []) C (qX2_heightOf l g hg hc) (iW7 _ (List.mem_of_getElem? (i := 27) rfl)) (iW7 _ (List.mem_of_getElem? (i := 28) rfl)) (iW5 _ (List.mem_of_getElem? (i := 18) rfl)) (iW7 _ (List.mem_of_getElem? (i := 29) rfl)) rfl rfl hdX2_heightOf (by decide) rfl rfl (Nat.le_of_ble_eq_true rfl) (dk dX3_heightAt_0 12 rfl) ?_
    refine k_goto (tgt := 27) C (dk dX3_heightAt_0 13 rfl) (by decide) ?_
    exact k_iret E (dk dX3_heightAt_0 15 rfl) h
set_option maxRecDepth 100000 in
set_option maxHeartbeats 4000000 in
theorem qX7_apart (l : Launch) (g : G) (hg : gOK g) {a0 : Int32} {a1 : Int32}  {s0 σe : St} {v : Int32} (h : mX7_apart a0 a1 s0 = some (v, σe)) : Mc l g yX7_apart cX7_apart 2 (some .int) { frames := 1, cells := 0, slots := 0, locals := 24 } [.int a0, .int a1] s0 (some (.int v)) σe := by
  refine k_enter hg pnRX7 rfl (Nat.le_of_ble_eq_true rfl) ?_
  intro WK E
  have C := kX_y E
  unfold mX7_apart at h
  show WK 0 [(0, .int a0), (1, .int a1)] [] s0
  refine k_iload_n C (dk dX7_apart_0 0 rfl) rfl 0 rfl ?_
  refine k_bipush (v := (6 : Int32)) C (dk dX7_apart_0 1 rfl) (by decide) ?_
  refine k_idiv C (dk dX7_apart_0 2 rfl) (by decide) ?_
  refine k_iload_n C (dk dX7_apart_0 3 rfl) rfl 1 rfl ?_
  refine k_bipush (v := (6 : Int32)) C (dk dX7_apart_0 4 rfl) (by decide) ?_
  refine k_idiv C (dk dX7_apart_0 5 rfl) (by decide) ?_
  refine k_isub C (dk dX7_apart_0 6 rfl) ?_
  refine k_mabs C (iW7 _ (List.mem_of_getElem? (i := 22) rfl)) (iW7 _ (List.mem_of_getElem? (i := 16) rfl)) (iW7 _ (List.mem_of_getElem? (i := 17) rfl)) (iW7 _ (List.mem_of_getElem? (i := 18) rfl)) (Nat.le_of_ble_eq_true rfl) (Nat.le_of_ble_eq_true rfl) (dk dX7_apart_0 7 rfl) ?_
  refine k_iload_n C (dk dX7_apart_0 8 rfl) rfl 0 rfl ?_
  refine k_bipush (v := (6 : Int32)) C (dk dX7_apart_0 9 rfl) (by decide) ?_
  refine k_irem C (dk dX7_apart_0 10 rfl) (by decide) ?_
  refine k_iload_n C (dk dX7_apart_0 11 rfl) rfl 1 rfl ?_
  refine k_bipush (v := (6 : Int32)) C (dk dX7_apart_0 12 rfl) (by decide) ?_
  refine k_irem C (dk dX7_apart_0 13 rfl) (by decide) ?_
  refine k_isub C (dk dX7_apart_0 14 rfl) ?_
  refine k_mabs C (iW7 _ (List.mem_of_getElem? (i := 22) rfl)) (iW7 _ (List.mem_of_getElem? (i := 16) rfl)) (iW7 _ (List.mem_of_getElem? (i := 17) rfl)) (iW7 _ (List.mem_of_getElem? (i := 18) rfl)) (Nat.le_of_ble_eq_true rfl) (Nat.le_of_ble_eq_true rfl) (dk dX7_apart_0 15 rfl) ?_
  refine k_iadd C (dk dX7_apart_0 16 rfl) ?_
  exact k_iret E (dk dX7_apart_0 17 rfl) h
set_option maxRecDepth 100000 in
set_option maxHeartbeats 4000000 in
theorem qX0_bound (l : Launch) (g : G) (hg : gOK g) {a1 : Int32} {a2 : Int32}  {s0 σe : St} (h : mX0_bound a1 a2 s0 = some σe) : Mc l g yX0_bound cX0_bound 8 none { frames := 0, cells := 0, slots := 0, locals := 0 } [.ref (g.2.2 28), .int a1, .int a2] s0 none σe := by
  refine k_enter hg pnRX0 rfl (Nat.le_of_ble_eq_true rfl) ?_
  intro WK E
  have C := kX_y E
  unfold mX0_bound at h
  show WK 0 [(0, .ref (g.2.2 28)), (1, .int a1), (2, .int a2)] [] s0
  refine k_iconst (v := (0 : Int32)) C (dk dX0_bound_0 0 rfl) (by decide) ?_
  refine k_istore_n (lv' := [(3, .int (0 : Int32)), (0, .ref (g.2.2 28)), (1, .int a1), (2, .int a2)]) C (dk dX0_bound_0 1 rfl) rfl (by decide) rfl ?_
  refine kl_L (P := (fun J2 => ∀ (y1 : Int32) (s2 : St), J2 y1 s2 = some σe → WK 2 [(0, .ref (g.2.2 28)), (1, .int a1), (2, .int a2), (3, .int y1)] [] s2)) h (fun _ _ h => nomatch h) (fun J2 hJ2 y1 s2 h => ?_) (fun J2 hJ2 h => ?_)
  ·
    unfold mX0_bound_2 at h
    refine k_iload_n C (dk dX0_bound_0 2 rfl) rfl 3 rfl ?_
    refine k_bipush (v := (36 : Int32)) C (dk dX0_bound_0 3 rfl) (by decide) ?_
    refine k_icmp_ge (tgt := 76) C (dk dX0_bound_0 4 rfl) (by decide) h (fun h => ?_) (fun h => ?_)
    ·
      exact k_vret E (dk dX0_bound_1 10 rfl) h
    ·
      refine k_lconst (v := (0 : Int64)) C (dk dX0_bound_0 5 rfl) (by decide) ?_
      refine k_lstore (lv' := [(4, .long (0 : Int64)), (0, .ref (g.2.2 28)), (1, .int a1), (2, .int a2), (3, .int y1)]) C (dk dX0_bound_0 6 rfl) (by decide) rfl ?_
      refine k_iconst (v := (0 : Int32)) C (dk dX0_bound_0 7 rfl) (by decide) ?_
      refine k_istore (lv' := [(6, .int (0 : Int32)), (4, .long (0 : Int64)), (0, .ref (g.2.2 28)), (1, .int a1), (2, .int a2), (3, .int y1)]) C (dk dX0_bound_0 8 rfl) (by decide) rfl ?_
      refine kl_L (P := (fun J14 => ∀ (y3 : Int64) (y4 : Int32) (s5 : St), J14 y3 y4 s5 = some σe → WK 14 [(0, .ref (g.2.2 28)), (1, .int a1), (2, .int a2), (3, .int y1), (4, .long y3), (6, .int y4)] [] s5)) h (fun _ _ _ h => nomatch h) (fun J14 hJ14 y3 y4 s5 h => ?_) (fun J14 hJ14 h => ?_)
      ·
        unfold mX0_bound_14 at h
        refine k_iload C (dk dX0_bound_0 9 rfl) 5 rfl ?_
        refine k_bipush (v := (36 : Int32)) C (dk dX0_bound_0 10 rfl) (by decide) ?_
        refine k_icmp_ge (tgt := 62) C (dk dX0_bound_0 11 rfl) (by decide) h (fun h => ?_) (fun h => ?_)
        ·
          refine k_aload_n C (dk dX0_bound_1 3 rfl) rfl 0 rfl ?_
          refine k_getR (q := 31) (D := RX0) (T := TX0) (N := 9) (ci := 0) (k := 2) C iCX0 rfl (by decide) rfl (by decide) (iW1 _ (List.mem_of_getElem? (i := 25) rfl)) rfl (dk dX0_bound_1 4 rfl) ?_
          refine k_iload_n C (dk dX0_bound_1 5 rfl) rfl 3 rfl ?_
          refine k_lload C (dk dX0_bound_1 6 rfl) 4 rfl ?_
          refine k_last C rfl rfl (dk dX0_bound_1 7 rfl) h (fun s6 h => ?_)
          refine k_iinc (lv' := [(3, .int (y1 + 1)), (0, .ref (g.2.2 28)), (1, .int a1), (2, .int a2), (4, .long y3), (6, .int y4)]) C (dk dX0_bound_1 8 rfl) (j := 3) rfl rfl (by decide) rfl ?_
          refine k_goto (tgt := 2) C (dk dX0_bound_1 9 rfl) (by decide) ?_
          refine k_sub C [1, 2, 3, 0] rfl ?_
          exact hJ2 _ _ h
        ·
          refine k_aload_n C (dk dX0_bound_0 12 rfl) rfl 0 rfl ?_
          refine k_getR (q := 30) (D := RX0) (T := TX0) (N := 9) (ci := 0) (k := 1) C iCX0 rfl (by decide) rfl (by decide) (iW1 _ (List.mem_of_getElem? (i := 24) rfl)) rfl (dk dX0_bound_0 13 rfl) ?_
          refine k_iload_n C (dk dX0_bound_0 14 rfl) rfl 3 rfl ?_
          refine k_bipush (v := (36 : Int32)) C (dk dX0_bound_0 15 rfl) (by decide) ?_
          refine k_imul C (dk dX0_bound_0 16 rfl) ?_
          refine k_iload C (dk dX0_bound_0 17 rfl) 5 rfl ?_
          refine k_iadd C (dk dX0_bound_0 18 rfl) ?_
          refine k_iald C rfl rfl (dk dX0_bound_0 19 rfl) h (fun x7 h => ?_)
          refine k_istore (lv' := [(7, .int x7), (0, .ref (g.2.2 28)), (1, .int a1), (2, .int a2), (3, .int y1), (4, .long y3), (6, .int y4)]) C (dk dX0_bound_0 20 rfl) (by decide) rfl ?_
          refine k_iload C (dk dX0_bound_0 21 rfl) 0 rfl ?_
          refine k_iload_n C (dk dX0_bound_0 22 rfl) rfl 2 rfl ?_
          refine kl_J (P := (fun J56 => ∀ (y8 : Int64) (y9 : Int32) (s10 : St), J56 y8 y9 s10 = some σe → WK 56 [(0, .ref (g.2.2 28)), (1, .int a1), (2, .int a2), (3, .int y1), (4, .long y8), (6, .int y9)] [] s10)) h (fun y8 y9 s10 h => ?_) (fun J56 hJ56 h => ?_)
          ·
            unfold mX0_bound_56 at h
            refine k_iinc (lv' := [(6, .int (y9 + 1)), (0, .ref (g.2.2 28)), (1, .int a1), (2, .int a2), (3, .int y1), (4, .long y8)]) C (dk dX0_bound_1 1 rfl) (j := 5) rfl rfl (by decide) rfl ?_
            refine k_goto (tgt := 14) C (dk dX0_bound_1 2 rfl) (by decide) ?_
            refine k_sub C [1, 2, 3, 4, 5, 0] rfl ?_
            exact hJ14 _ _ _ h
          ·
            refine k_icmp_lt (tgt := 56) C (dk dX0_bound_0 23 rfl) (by decide) h (fun h => ?_) (fun h => ?_)
            ·
              refine k_sub C [1, 2, 3, 4, 5, 6] rfl ?_
              exact hJ56 _ _ _ h
            ·
              refine k_iload C (dk dX0_bound_0 24 rfl) 0 rfl ?_
              refine k_iload_n C (dk dX0_bound_0 25 rfl) rfl 3 rfl ?_
              refine k_icmp_gt (tgt := 56) C (dk dX0_bound_0 26 rfl) (by decide) h (fun h => ?_) (fun h => ?_)
              ·
                refine k_sub C [1, 2, 3, 4, 5, 6] rfl ?_
                exact hJ56 _ _ _ h
              ·
                refine k_lload C (dk dX0_bound_0 27 rfl) 5 rfl ?_
                refine k_lconst (v := (1 : Int64)) C (dk dX0_bound_0 28 rfl) (by decide) ?_
                refine k_iload C (dk dX0_bound_0 29 rfl) 6 rfl ?_
                refine k_lshl C (dk dX0_bound_0 30 rfl) ?_
                refine k_lor C (dk dX0_bound_0 31 rfl) ?_
                refine nmL h (fun x11 h => ?_)
                refine k_lstore (lv' := [(4, .long x11), (7, .int x7), (0, .ref (g.2.2 28)), (1, .int a1), (2, .int a2), (3, .int y1), (6, .int y4)]) C (dk dX0_bound_1 0 rfl) (by decide) rfl ?_
                refine k_sub C [2, 3, 4, 5, 0, 6] rfl ?_
                exact hJ56 _ _ _ h
      ·
        refine k_sub C [2, 3, 4, 5, 1, 0] rfl ?_
        exact hJ14 _ _ _ h
  ·
    refine k_sub C [1, 2, 3, 0] rfl ?_
    exact hJ2 _ _ h
set_option maxRecDepth 100000 in
set_option maxHeartbeats 4000000 in
theorem qX2_isOpen (l : Launch) (g : G) (hg : gOK g) {a0 : Int32} {a1 : Int32} {a2 : Int32}  {s0 σe : St} {v : Int32} (h : mX2_isOpen a0 a1 a2 s0 = some (v, σe)) : Mc l g yX2_isOpen cX2_isOpen 3 (some .boolean) { frames := 0, cells := 0, slots := 0, locals := 0 } [.int a0, .int a1, .int a2] s0 (some (.int v)) σe := by
  refine k_enter hg pnRX2 rfl (Nat.le_of_ble_eq_true rfl) ?_
  intro WK E
  have C := kX_y E
  unfold mX2_isOpen at h
  show WK 0 [(0, .int a0), (1, .int a1), (2, .int a2)] [] s0
  refine k_iload_n C (dk dX2_isOpen_0 0 rfl) rfl 0 rfl ?_
  by_cases e0 : a0 = (3 : Int32)
  · replace h := (if_pos e0).symm.trans h
    refine k_tsIn (q := (3 : Int32)) (tgt := 28) C (dk dX2_isOpen_0 1 rfl) (by decide) (by decide) rfl (by decide) e0 ?_
    refine k_iload_n C (dk dX2_isOpen_0 2 rfl) rfl 2 rfl ?_
    refine k_if_ne (tgt := 36) C (dk dX2_isOpen_0 3 rfl) (by decide) h (fun h => ?_) (fun h => ?_)
    ·
      refine k_iconst (v := (0 : Int32)) C (dk dX2_isOpen_0 6 rfl) (by decide) ?_
      exact k_zret E (dk dX2_isOpen_0 7 rfl) h
    ·
      refine k_iconst (v := (1 : Int32)) C (dk dX2_isOpen_0 4 rfl) (by decide) ?_
      refine k_goto (tgt := 37) C (dk dX2_isOpen_0 5 rfl) (by decide) ?_
      exact k_zret E (dk dX2_isOpen_0 7 rfl) h
  replace h := (if_neg e0).symm.trans h
  by_cases e1 : a0 = (4 : Int32)
  · replace h := (if_pos e1).symm.trans h
    refine k_tsIn (q := (4 : Int32)) (tgt := 38) C (dk dX2_isOpen_0 1 rfl) (by decide) (by decide) rfl (by decide) e1 ?_
    refine k_iload_n C (dk dX2_isOpen_0 8 rfl) rfl 1 rfl ?_
    refine k_iconst (v := (4 : Int32)) C (dk dX2_isOpen_0 9 rfl) (by decide) ?_
    refine kl_J (P := (fun J47 => ∀ (s1 : St), J47 s1 = some (v, σe) → WK 47 [] [] s1)) h (fun s1 h => ?_) (fun J47 hJ47 h => ?_)
    ·
      unfold mX2_isOpen_47 at h
      refine k_iconst (v := (1 : Int32)) C (dk dX2_isOpen_0 13 rfl) (by decide) ?_
      refine k_goto (tgt := 52) C (dk dX2_isOpen_0 14 rfl) (by decide) ?_
      exact k_zret E (dk dX2_isOpen_0 16 rfl) h
    ·
      refine k_icmp_le (tgt := 47) C (dk dX2_isOpen_0 10 rfl) (by decide) h (fun h => ?_) (fun h => ?_)
      ·
        refine k_sub C [] rfl ?_
        exact hJ47 _ h
      ·
        refine k_iload_n C (dk dX2_isOpen_0 11 rfl) rfl 2 rfl ?_
        refine k_if_ne (tgt := 51) C (dk dX2_isOpen_0 12 rfl) (by decide) h (fun h => ?_) (fun h => ?_)
        ·
          refine k_iconst (v := (0 : Int32)) C (dk dX2_isOpen_0 15 rfl) (by decide) ?_
          exact k_zret E (dk dX2_isOpen_0 16 rfl) h
        ·
          refine k_sub C [] rfl ?_
          exact hJ47 _ h
  replace h := (if_neg e1).symm.trans h
  by_cases e2 : a0 = (5 : Int32)
  · replace h := (if_pos e2).symm.trans h
    refine k_tsIn (q := (5 : Int32)) (tgt := 53) C (dk dX2_isOpen_0 1 rfl) (by decide) (by decide) rfl (by decide) e2 ?_
    refine k_iload_n C (dk dX2_isOpen_0 17 rfl) rfl 2 rfl ?_
    refine k_iconst (v := (1 : Int32)) C (dk dX2_isOpen_0 18 rfl) (by decide) ?_
    refine k_icmp_ne (tgt := 62) C (dk dX2_isOpen_0 19 rfl) (by decide) h (fun h => ?_) (fun h => ?_)
    ·
      refine k_iconst (v := (0 : Int32)) C (dk dX2_isOpen_0 22 rfl) (by decide) ?_
      exact k_zret E (dk dX2_isOpen_0 23 rfl) h
    ·
      refine k_iconst (v := (1 : Int32)) C (dk dX2_isOpen_0 20 rfl) (by decide) ?_
      refine k_goto (tgt := 63) C (dk dX2_isOpen_0 21 rfl) (by decide) ?_
      exact k_zret E (dk dX2_isOpen_0 23 rfl) h
  replace h := (if_neg e2).symm.trans h
  refine k_tsOut (tgt := 64) C (dk dX2_isOpen_0 1 rfl) (by have n0 : a0.toInt ≠ 3 := fun q => e0 (Int32.toInt_inj.mp (q.trans (by decide))); have n1 : a0.toInt ≠ 4 := fun q => e1 (Int32.toInt_inj.mp (q.trans (by decide))); have n2 : a0.toInt ≠ 5 := fun q => e2 (Int32.toInt_inj.mp (q.trans (by decide))); omega) (by decide) ?_
  refine k_iconst (v := (1 : Int32)) C (dk dX2_isOpen_0 24 rfl) (by decide) ?_
  exact k_zret E (dk dX2_isOpen_0 25 rfl) h
set_option maxRecDepth 100000 in
set_option maxHeartbeats 4000000 in
theorem qX3_isOpen (l : Launch) (g : G) (hg : gOK g) {o0 : Nat} {a1 : Int32} (ho0 : kd o0 = 1) {s0 σe : St} {v : Int32} (h : mX3_isOpen o0 a1 s0 = some (v, σe)) : Mc l g yX3_isOpen cX3_isOpen 2 (some .boolean) { frames := 1, cells := 0, slots := 0, locals := 22 } [.ref (g.2.2 o0), .int a1] s0 (some (.int v)) σe := by
  refine k_enter hg pnRX3 rfl (Nat.le_of_ble_eq_true rfl) ?_
  intro WK E
  have C := kX_y E
  unfold mX3_isOpen at h
  show WK 0 [(0, .ref (g.2.2 o0)), (1, .int a1)] [] s0
  refine k_iload_n C (dk dX3_isOpen_0 0 rfl) rfl 1 rfl ?_
  refine k_i2l C (dk dX3_isOpen_0 1 rfl) ?_
  refine cl2_k h (fun x2 s1 hc h => ?_)
  refine k_cn (As := [.long a1.toInt64]) (st := []) C (qX10_isCell l g hg hc) (iW5 _ (List.mem_of_getElem? (i := 21) rfl)) rfl rfl (List.mem_of_getElem? (i := 1) rfl) (iW5 _ (List.mem_of_getElem? (i := 20) rfl)) (iW0 _ (List.mem_of_getElem? (i := 2) rfl)) hdX10_isCell (by decide) rfl rfl (Nat.le_of_ble_eq_true rfl) (dk dX3_isOpen_0 2 rfl) ?_
  refine k_if_eq (tgt := 34) C (dk dX3_isOpen_0 3 rfl) (by decide) h (fun h => ?_) (fun h => ?_)
  ·
    refine k_iconst (v := (0 : Int32)) C (dk dX3_isOpen_0 18 rfl) (by decide) ?_
    exact k_zret E (dk dX3_isOpen_0 19 rfl) h
  ·
    refine k_aload_n C (dk dX3_isOpen_0 4 rfl) rfl 0 rfl ?_
    refine k_getR (q := (o0 + 3)) (D := RX3) (T := TX3) (N := 10) (ci := 1) (k := 0) C iCX3 ho0 (by decide) rfl (by decide) (iW1 _ (List.mem_of_getElem? (i := 10) rfl)) rfl (dk dX3_isOpen_0 5 rfl) ?_
    refine k_iload_n C (dk dX3_isOpen_0 6 rfl) rfl 1 rfl ?_
    refine k_iald C (kd_L3 ho0) (ln_L3 ho0) (dk dX3_isOpen_0 7 rfl) h (fun x3 h => ?_)
    refine k_aload_n C (dk dX3_isOpen_0 8 rfl) rfl 0 rfl ?_
    refine k_getR (q := (o0 + 6)) (D := RX3) (T := TX3) (N := 10) (ci := 1) (k := 1) C iCX3 ho0 (by decide) rfl (by decide) (iW1 _ (List.mem_of_getElem? (i := 11) rfl)) rfl (dk dX3_isOpen_0 9 rfl) ?_
    refine k_iload_n C (dk dX3_isOpen_0 10 rfl) rfl 1 rfl ?_
    refine k_iald C (kd_L6 ho0) (ln_L6 ho0) (dk dX3_isOpen_0 11 rfl) h (fun x4 h => ?_)
    refine k_aload_n C (dk dX3_isOpen_0 12 rfl) rfl 0 rfl ?_
    refine k_getI (D := RX3) (T := TX3) (N := 10) (ci := 1) (k := 2) C iCX3 ho0 (by decide) rfl (by decide) (iW1 _ (List.mem_of_getElem? (i := 12) rfl)) rfl (dk dX3_isOpen_0 13 rfl) h (fun x5 h => ?_)
    refine cl2_k h (fun x7 s6 hc h => ?_)
    refine k_cs (As := [.int x3, .int x4, .int x5]) (st := []) C (qX2_isOpen l g hg hc) (iW6 _ (List.mem_of_getElem? (i := 4) rfl)) (iW6 _ (List.mem_of_getElem? (i := 5) rfl)) (iW5 _ (List.mem_of_getElem? (i := 18) rfl)) (iW6 _ (List.mem_of_getElem? (i := 6) rfl)) rfl rfl hdX2_isOpen (by decide) rfl rfl (Nat.le_of_ble_eq_true rfl) (dk dX3_isOpen_0 14 rfl) ?_
    refine k_if_eq (tgt := 34) C (dk dX3_isOpen_0 15 rfl) (by decide) h (fun h => ?_) (fun h => ?_)
    ·
      refine k_iconst (v := (0 : Int32)) C (dk dX3_isOpen_0 18 rfl) (by decide) ?_
      exact k_zret E (dk dX3_isOpen_0 19 rfl) h
    ·
      refine k_iconst (v := (1 : Int32)) C (dk dX3_isOpen_0 16 rfl) (by decide) ?_
      refine k_goto (tgt := 35) C (dk dX3_isOpen_0 17 rfl) (by decide) ?_
      exact k_zret E (dk dX3_isOpen_0 19 rfl) h
set_option maxRecDepth 100000 in
set_option maxHeartbeats 4000000 in
theorem qX7_bit (l : Launch) (g : G) (hg : gOK g) {a0 : Int32}  {s0 σe : St} {v : Int64} (h : mX7_bit a0 s0 = some (v, σe)) : Mc l g yX7_bit cX7_bit 1 (some .long) { frames := 0, cells := 0, slots := 0, locals := 0 } [.int a0] s0 (some (.long v)) σe := by
  refine k_enter hg pnRX7 rfl (Nat.le_of_ble_eq_true rfl) ?_
  intro WK E
  have C := kX_y E
  unfold mX7_bit at h
  show WK 0 [(0, .int a0)] [] s0
  refine k_iload_n C (dk dX7_bit_0 0 rfl) rfl 0 rfl ?_
  refine k_if_lt (tgt := 16) C (dk dX7_bit_0 1 rfl) (by decide) h (fun h => ?_) (fun h => ?_)
  ·
    refine k_lconst (v := (0 : Int64)) C (dk dX7_bit_0 9 rfl) (by decide) ?_
    exact k_lret E (dk dX7_bit_0 10 rfl) h
  ·
    refine k_iload_n C (dk dX7_bit_0 2 rfl) rfl 0 rfl ?_
    refine k_bipush (v := (36 : Int32)) C (dk dX7_bit_0 3 rfl) (by decide) ?_
    refine k_icmp_ge (tgt := 16) C (dk dX7_bit_0 4 rfl) (by decide) h (fun h => ?_) (fun h => ?_)
    ·
      refine k_lconst (v := (0 : Int64)) C (dk dX7_bit_0 9 rfl) (by decide) ?_
      exact k_lret E (dk dX7_bit_0 10 rfl) h
    ·
      refine k_lconst (v := (1 : Int64)) C (dk dX7_bit_0 5 rfl) (by decide) ?_
      refine k_iload_n C (dk dX7_bit_0 6 rfl) rfl 0 rfl ?_
      refine k_lshl C (dk dX7_bit_0 7 rfl) ?_
      refine k_goto (tgt := 17) C (dk dX7_bit_0 8 rfl) (by decide) ?_
      exact k_lret E (dk dX7_bit_0 10 rfl) h
set_option maxRecDepth 100000 in
set_option maxHeartbeats 4000000 in
theorem qX3_openCells (l : Launch) (g : G) (hg : gOK g) {o0 : Nat} (ho0 : kd o0 = 1) {s0 σe : St} {v : Int64} (h : mX3_openCells o0 s0 = some (v, σe)) : Mc l g yX3_openCells cX3_openCells 4 (some .long) { frames := 2, cells := 0, slots := 0, locals := 43 } [.ref (g.2.2 o0)] s0 (some (.long v)) σe := by
  refine k_enter hg pnRX3 rfl (Nat.le_of_ble_eq_true rfl) ?_
  intro WK E
  have C := kX_y E
  unfold mX3_openCells at h
  show WK 0 [(0, .ref (g.2.2 o0))] [] s0
  refine k_lconst (v := (0 : Int64)) C (dk dX3_openCells_0 0 rfl) (by decide) ?_
  refine k_lstore_n (lv' := [(1, .long (0 : Int64)), (0, .ref (g.2.2 o0))]) C (dk dX3_openCells_0 1 rfl) rfl (by decide) rfl ?_
  refine k_iconst (v := (0 : Int32)) C (dk dX3_openCells_0 2 rfl) (by decide) ?_
  refine k_istore_n (lv' := [(3, .int (0 : Int32)), (1, .long (0 : Int64)), (0, .ref (g.2.2 o0))]) C (dk dX3_openCells_0 3 rfl) rfl (by decide) rfl ?_
  refine kl_L (P := (fun J4 => ∀ (y1 : Int64) (y2 : Int32) (s3 : St), J4 y1 y2 s3 = some (v, σe) → WK 4 [(0, .ref (g.2.2 o0)), (1, .long y1), (3, .int y2)] [] s3)) h (fun _ _ _ h => nomatch h) (fun J4 hJ4 y1 y2 s3 h => ?_) (fun J4 hJ4 h => ?_)
  ·
    unfold mX3_openCells_4 at h
    refine k_iload_n C (dk dX3_openCells_0 4 rfl) rfl 2 rfl ?_
    refine k_bipush (v := (36 : Int32)) C (dk dX3_openCells_0 5 rfl) (by decide) ?_
    refine k_icmp_ge (tgt := 31) C (dk dX3_openCells_0 6 rfl) (by decide) h (fun h => ?_) (fun h => ?_)
    ·
      refine k_lload_n C (dk dX3_openCells_0 18 rfl) rfl 1 rfl ?_
      exact k_lret E (dk dX3_openCells_0 19 rfl) h
    ·
      refine k_aload_n C (dk dX3_openCells_0 7 rfl) rfl 0 rfl ?_
      refine k_iload_n C (dk dX3_openCells_0 8 rfl) rfl 2 rfl ?_
      refine cl2_k h (fun x5 s4 hc h => ?_)
      refine k_cv (T := TX3) (N := 10) (ci := 1) (ob := o0) (As := [.int y2]) (st := []) C (qX3_isOpen l g hg ho0 hc) (iW7 _ (List.mem_of_getElem? (i := 6) rfl)) (iW6 _ (List.mem_of_getElem? (i := 1) rfl)) (iW6 _ (List.mem_of_getElem? (i := 2) rfl)) (iW0 _ (List.mem_of_getElem? (i := 15) rfl)) (iW6 _ (List.mem_of_getElem? (i := 3) rfl)) rfl rfl hdX3_isOpen (by decide) ho0 (by decide) rfl rfl rfl (Nat.le_of_ble_eq_true rfl) (dk dX3_openCells_0 9 rfl) ?_
      refine kl_J (P := (fun J25 => ∀ (y6 : Int64) (y7 : Int32) (s8 : St), J25 y6 y7 s8 = some (v, σe) → WK 25 [(0, .ref (g.2.2 o0)), (1, .long y6), (3, .int y7)] [] s8)) h (fun y6 y7 s8 h => ?_) (fun J25 hJ25 h => ?_)
      ·
        unfold mX3_openCells_25 at h
        refine k_iinc (lv' := [(3, .int (y7 + 1)), (0, .ref (g.2.2 o0)), (1, .long y6)]) C (dk dX3_openCells_0 16 rfl) (j := 2) rfl rfl (by decide) rfl ?_
        refine k_goto (tgt := 4) C (dk dX3_openCells_0 17 rfl) (by decide) ?_
        refine k_sub C [1, 2, 0] rfl ?_
        exact hJ4 _ _ _ h
      ·
        refine k_if_eq (tgt := 25) C (dk dX3_openCells_0 10 rfl) (by decide) h (fun h => ?_) (fun h => ?_)
        ·
          exact hJ25 _ _ _ h
        ·
          refine k_lload_n C (dk dX3_openCells_0 11 rfl) rfl 1 rfl ?_
          refine k_iload_n C (dk dX3_openCells_0 12 rfl) rfl 2 rfl ?_
          refine cl2_k h (fun x10 s9 hc h => ?_)
          refine k_cs (As := [.int y2]) (st := [.long y1]) C (qX7_bit l g hg hc) (iW14 _ (List.mem_of_getElem? (i := 14) rfl)) (iW14 _ (List.mem_of_getElem? (i := 15) rfl)) (iW7 _ (List.mem_of_getElem? (i := 4) rfl)) (iW14 _ (List.mem_of_getElem? (i := 16) rfl)) rfl rfl hdX7_bit (by decide) rfl rfl (Nat.le_of_ble_eq_true rfl) (dk dX3_openCells_0 13 rfl) ?_
          refine k_lor C (dk dX3_openCells_0 14 rfl) ?_
          refine nmL h (fun x11 h => ?_)
          refine k_lstore_n (lv' := [(1, .long x11), (0, .ref (g.2.2 o0)), (3, .int y2)]) C (dk dX3_openCells_0 15 rfl) rfl (by decide) rfl ?_
          refine k_sub C [1, 0, 2] rfl ?_
          exact hJ25 _ _ _ h
  ·
    refine k_sub C [2, 1, 0] rfl ?_
    exact hJ4 _ _ _ h
set_option maxRecDepth 100000 in
set_option maxHeartbeats 4000000 in
theorem qX7_has (l : Launch) (g : G) (hg : gOK g) {a0 : Int64} {a2 : Int32}  {s0 σe : St} {v : Int32} (h : mX7_has a0 a2 s0 = some (v, σe)) : Mc l g yX7_has cX7_has 3 (some .boolean) { frames := 1, cells := 0, slots := 0, locals := 20 } [.long a0, .int a2] s0 (some (.int v)) σe := by
  refine k_enter hg pnRX7 rfl (Nat.le_of_ble_eq_true rfl) ?_
  intro WK E
  have C := kX_y E
  unfold mX7_has at h
  show WK 0 [(0, .long a0), (2, .int a2)] [] s0
  refine k_lload_n C (dk dX7_has_0 0 rfl) rfl 0 rfl ?_
  refine k_iload_n C (dk dX7_has_0 1 rfl) rfl 1 rfl ?_
  refine cl2_k h (fun x2 s1 hc h => ?_)
  refine k_cs (As := [.int a2]) (st := [.long a0]) C (qX7_bit l g hg hc) (iW14 _ (List.mem_of_getElem? (i := 20) rfl)) (iW14 _ (List.mem_of_getElem? (i := 15) rfl)) (iW7 _ (List.mem_of_getElem? (i := 4) rfl)) (iW14 _ (List.mem_of_getElem? (i := 16) rfl)) rfl rfl hdX7_bit (by decide) rfl rfl (Nat.le_of_ble_eq_true rfl) (dk dX7_has_0 2 rfl) ?_
  refine k_land C (dk dX7_has_0 3 rfl) ?_
  refine k_lconst (v := (0 : Int64)) C (dk dX7_has_0 4 rfl) (by decide) ?_
  refine k_lcmp C (dk dX7_has_0 5 rfl) ?_
  refine k_if_eq (tgt := 15) C (dk dX7_has_0 6 rfl) (by decide) h (fun h => ?_) (fun h => ?_)
  ·
    refine k_iconst (v := (0 : Int32)) C (dk dX7_has_0 9 rfl) (by decide) ?_
    exact k_zret E (dk dX7_has_0 10 rfl) h
  ·
    refine k_iconst (v := (1 : Int32)) C (dk dX7_has_0 7 rfl) (by decide) ?_
    refine k_goto (tgt := 16) C (dk dX7_has_0 8 rfl) (by decide) ?_
    exact k_zret E (dk dX7_has_0 10 rfl) h
set_option maxRecDepth 100000 in
set_option maxHeartbeats 4000000 in
theorem qX0_admit (l : Launch) (g : G) (hg : gOK g) {a1 : Int64}  {s0 σe : St} (h : mX0_admit a1 s0 = some σe) : Mc l g yX0_admit cX0_admit 4 none { frames := 2, cells := 0, slots := 0, locals := 42 } [.ref (g.2.2 28), .long a1] s0 none σe := by
  refine k_enter hg pnRX0 rfl (Nat.le_of_ble_eq_true rfl) ?_
  intro WK E
  have C := kX_y E
  unfold mX0_admit at h
  show WK 0 [(0, .ref (g.2.2 28)), (1, .long a1)] [] s0
  refine k_iconst (v := (0 : Int32)) C (dk dX0_admit_0 0 rfl) (by decide) ?_
  refine k_istore_n (lv' := [(3, .int (0 : Int32)), (0, .ref (g.2.2 28)), (1, .long a1)]) C (dk dX0_admit_0 1 rfl) rfl (by decide) rfl ?_
  refine kl_L (P := (fun J2 => ∀ (y1 : Int32) (s2 : St), J2 y1 s2 = some σe → WK 2 [(0, .ref (g.2.2 28)), (1, .long a1), (3, .int y1)] [] s2)) h (fun _ _ h => nomatch h) (fun J2 hJ2 y1 s2 h => ?_) (fun J2 hJ2 h => ?_)
  ·
    unfold mX0_admit_2 at h
    refine k_iload_n C (dk dX0_admit_0 2 rfl) rfl 2 rfl ?_
    refine k_bipush (v := (36 : Int32)) C (dk dX0_admit_0 3 rfl) (by decide) ?_
    refine k_icmp_ge (tgt := 40) C (dk dX0_admit_0 4 rfl) (by decide) h (fun h => ?_) (fun h => ?_)
    ·
      exact k_vret E (dk dX0_admit_0 23 rfl) h
    ·
      refine k_aload_n C (dk dX0_admit_0 5 rfl) rfl 0 rfl ?_
      refine k_getR (q := 32) (D := RX0) (T := TX0) (N := 9) (ci := 0) (k := 3) C iCX0 rfl (by decide) rfl (by decide) (iW1 _ (List.mem_of_getElem? (i := 26) rfl)) rfl (dk dX0_admit_0 6 rfl) ?_
      refine k_iload_n C (dk dX0_admit_0 7 rfl) rfl 2 rfl ?_
      refine k_lload_n C (dk dX0_admit_0 8 rfl) rfl 1 rfl ?_
      refine k_iload_n C (dk dX0_admit_0 9 rfl) rfl 2 rfl ?_
      refine cl2_k h (fun x4 s3 hc h => ?_)
      refine k_cs (As := [.long a1, .int y1]) (st := [.int y1, .ref (g.2.2 32)]) C (qX7_has l g hg hc) (iW16 _ (List.mem_of_getElem? (i := 11) rfl)) (iW14 _ (List.mem_of_getElem? (i := 22) rfl)) (iW7 _ (List.mem_of_getElem? (i := 4) rfl)) (iW14 _ (List.mem_of_getElem? (i := 23) rfl)) rfl rfl hdX7_has (by decide) rfl rfl (Nat.le_of_ble_eq_true rfl) (dk dX0_admit_0 10 rfl) ?_
      refine kl_J (P := (fun J33 => ∀ (y5 : Int64) (s6 : St), J33 y5 s6 = some σe → WK 33 [(0, .ref (g.2.2 28)), (1, .long a1), (3, .int y1)] [.long y5, .int y1, .ref (g.2.2 32)] s6)) h (fun y5 s6 h => ?_) (fun J33 hJ33 h => ?_)
      ·
        unfold mX0_admit_33 at h
        refine k_last C rfl rfl (dk dX0_admit_0 20 rfl) h (fun s7 h => ?_)
        refine k_iinc (lv' := [(3, .int (y1 + 1)), (0, .ref (g.2.2 28)), (1, .long a1)]) C (dk dX0_admit_0 21 rfl) (j := 2) rfl rfl (by decide) rfl ?_
        refine k_goto (tgt := 2) C (dk dX0_admit_0 22 rfl) (by decide) ?_
        refine k_sub C [1, 2, 0] rfl ?_
        exact hJ2 _ _ h
      ·
        refine k_if_eq (tgt := 32) C (dk dX0_admit_0 11 rfl) (by decide) h (fun h => ?_) (fun h => ?_)
        ·
          refine k_lconst (v := (0 : Int64)) C (dk dX0_admit_0 19 rfl) (by decide) ?_
          exact hJ33 _ _ h
        ·
          refine k_aload_n C (dk dX0_admit_0 12 rfl) rfl 0 rfl ?_
          refine k_getR (q := 31) (D := RX0) (T := TX0) (N := 9) (ci := 0) (k := 2) C iCX0 rfl (by decide) rfl (by decide) (iW1 _ (List.mem_of_getElem? (i := 25) rfl)) rfl (dk dX0_admit_0 13 rfl) ?_
          refine k_iload_n C (dk dX0_admit_0 14 rfl) rfl 2 rfl ?_
          refine k_lald C rfl rfl (dk dX0_admit_0 15 rfl) h (fun x8 h => ?_)
          refine k_lload_n C (dk dX0_admit_0 16 rfl) rfl 1 rfl ?_
          refine k_land C (dk dX0_admit_0 17 rfl) ?_
          refine k_goto (tgt := 33) C (dk dX0_admit_0 18 rfl) (by decide) ?_
          exact hJ33 _ _ h
  ·
    refine k_sub C [1, 2, 0] rfl ?_
    exact hJ2 _ _ h
set_option maxRecDepth 100000 in
set_option maxHeartbeats 4000000 in
theorem qX0_lay (l : Launch) (g : G) (hg : gOK g) {o1 : Nat} (ho1 : kd o1 = 1) {s0 σe : St} (h : mX0_lay o1 s0 = some σe) : Mc l g yX0_lay cX0_lay 5 none { frames := 3, cells := 0, slots := 0, locals := 66 } [.ref (g.2.2 28), .ref (g.2.2 o1)] s0 none σe := by
  refine k_enter hg pnRX0 rfl (Nat.le_of_ble_eq_true rfl) ?_
  intro WK E
  have C := kX_y E
  unfold mX0_lay at h
  show WK 0 [(0, .ref (g.2.2 28)), (1, .ref (g.2.2 o1))] [] s0
  refine k_iconst (v := (0 : Int32)) C (dk dX0_lay_0 0 rfl) (by decide) ?_
  refine k_istore_n (lv' := [(2, .int (0 : Int32)), (0, .ref (g.2.2 28)), (1, .ref (g.2.2 o1))]) C (dk dX0_lay_0 1 rfl) rfl (by decide) rfl ?_
  refine kl_L (P := (fun J2 => ∀ (y1 : Int32) (s2 : St), J2 y1 s2 = some σe → WK 2 [(0, .ref (g.2.2 28)), (1, .ref (g.2.2 o1)), (2, .int y1)] [] s2)) h (fun _ _ h => nomatch h) (fun J2 hJ2 y1 s2 h => ?_) (fun J2 hJ2 h => ?_)
  ·
    unfold mX0_lay_2 at h
    refine k_iload_n C (dk dX0_lay_0 2 rfl) rfl 2 rfl ?_
    refine k_bipush (v := (36 : Int32)) C (dk dX0_lay_0 3 rfl) (by decide) ?_
    refine k_icmp_ge (tgt := 25) C (dk dX0_lay_0 4 rfl) (by decide) h (fun h => ?_) (fun h => ?_)
    ·
      refine k_iconst (v := (0 : Int32)) C (dk dX0_lay_0 14 rfl) (by decide) ?_
      refine k_istore_n (lv' := [(2, .int (0 : Int32)), (0, .ref (g.2.2 28)), (1, .ref (g.2.2 o1))]) C (dk dX0_lay_0 15 rfl) rfl (by decide) rfl ?_
      refine kl_L (P := (fun J27 => ∀ (y3 : Int32) (s4 : St), J27 y3 s4 = some σe → WK 27 [(0, .ref (g.2.2 28)), (1, .ref (g.2.2 o1)), (2, .int y3)] [] s4)) h (fun _ _ h => nomatch h) (fun J27 hJ27 y3 s4 h => ?_) (fun J27 hJ27 h => ?_)
      ·
        unfold mX0_lay_27 at h
        refine k_iload_n C (dk dX0_lay_0 16 rfl) rfl 2 rfl ?_
        refine k_bipush (v := (36 : Int32)) C (dk dX0_lay_0 17 rfl) (by decide) ?_
        refine k_icmp_ge (tgt := 92) C (dk dX0_lay_0 18 rfl) (by decide) h (fun h => ?_) (fun h => ?_)
        ·
          refine k_aload_n C (dk dX0_lay_1 22 rfl) rfl 0 rfl ?_
          refine k_aload_n C (dk dX0_lay_1 23 rfl) rfl 1 rfl ?_
          refine k_getI (D := RX3) (T := TX3) (N := 10) (ci := 1) (k := 3) C iCX3 ho1 (by decide) rfl (by decide) (iW15 _ (List.mem_of_getElem? (i := 28) rfl)) rfl (dk dX0_lay_1 24 rfl) h (fun x5 h => ?_)
          refine k_aload_n C (dk dX0_lay_1 25 rfl) rfl 1 rfl ?_
          refine k_getI (D := RX3) (T := TX3) (N := 10) (ci := 1) (k := 4) C iCX3 ho1 (by decide) rfl (by decide) (iW15 _ (List.mem_of_getElem? (i := 29) rfl)) rfl (dk dX0_lay_1 26 rfl) h (fun x6 h => ?_)
          refine cl1_k h (fun s7 hc h => ?_)
          refine k_cv (T := TX0) (N := 9) (ci := 0) (ob := 28) (As := [.int x5, .int x6]) (st := []) C (qX0_bound l g hg hc) (iW16 _ (List.mem_of_getElem? (i := 2) rfl)) (iW16 _ (List.mem_of_getElem? (i := 3) rfl)) (iW16 _ (List.mem_of_getElem? (i := 4) rfl)) (iW0 _ (List.mem_of_getElem? (i := 21) rfl)) (iW16 _ (List.mem_of_getElem? (i := 5) rfl)) rfl rfl hdX0_bound (by decide) rfl (by decide) rfl rfl rfl (Nat.le_of_ble_eq_true rfl) (dk dX0_lay_1 27 rfl) ?_
          refine k_aload_n C (dk dX0_lay_1 28 rfl) rfl 0 rfl ?_
          refine k_aload_n C (dk dX0_lay_1 29 rfl) rfl 1 rfl ?_
          refine cl2_k h (fun x9 s8 hc h => ?_)
          refine k_cv (T := TX3) (N := 10) (ci := 1) (ob := o1) (As := []) (st := [.ref (g.2.2 28)]) C (qX3_openCells l g hg ho1 hc) (iW16 _ (List.mem_of_getElem? (i := 6) rfl)) (iW14 _ (List.mem_of_getElem? (i := 11) rfl)) (iW14 _ (List.mem_of_getElem? (i := 12) rfl)) (iW0 _ (List.mem_of_getElem? (i := 15) rfl)) (iW14 _ (List.mem_of_getElem? (i := 13) rfl)) rfl rfl hdX3_openCells (by decide) ho1 (by decide) rfl rfl rfl (Nat.le_of_ble_eq_true rfl) (dk dX0_lay_1 30 rfl) ?_
          refine cl1_k h (fun s10 hc h => ?_)
          refine k_cv (T := TX0) (N := 9) (ci := 0) (ob := 28) (As := [.long x9]) (st := []) C (qX0_admit l g hg hc) (iW16 _ (List.mem_of_getElem? (i := 7) rfl)) (iW16 _ (List.mem_of_getElem? (i := 8) rfl)) (iW16 _ (List.mem_of_getElem? (i := 9) rfl)) (iW0 _ (List.mem_of_getElem? (i := 21) rfl)) (iW16 _ (List.mem_of_getElem? (i := 10) rfl)) rfl rfl hdX0_admit (by decide) rfl (by decide) rfl rfl rfl (Nat.le_of_ble_eq_true rfl) (dk dX0_lay_1 31 rfl) ?_
          exact k_vret E (dk dX0_lay_2 0 rfl) h
        ·
          refine k_iconst (v := (0 : Int32)) C (dk dX0_lay_0 19 rfl) (by decide) ?_
          refine k_istore_n (lv' := [(3, .int (0 : Int32)), (0, .ref (g.2.2 28)), (1, .ref (g.2.2 o1)), (2, .int y3)]) C (dk dX0_lay_0 20 rfl) rfl (by decide) rfl ?_
          refine kl_L (P := (fun J35 => ∀ (y11 : Int32) (s12 : St), J35 y11 s12 = some σe → WK 35 [(0, .ref (g.2.2 28)), (1, .ref (g.2.2 o1)), (2, .int y3), (3, .int y11)] [] s12)) h (fun _ _ h => nomatch h) (fun J35 hJ35 y11 s12 h => ?_) (fun J35 hJ35 h => ?_)
          ·
            unfold mX0_lay_35 at h
            refine k_iload_n C (dk dX0_lay_0 21 rfl) rfl 3 rfl ?_
            refine k_bipush (v := (36 : Int32)) C (dk dX0_lay_0 22 rfl) (by decide) ?_
            refine k_icmp_ge (tgt := 86) C (dk dX0_lay_0 23 rfl) (by decide) h (fun h => ?_) (fun h => ?_)
            ·
              refine k_iinc (lv' := [(2, .int (y3 + 1)), (0, .ref (g.2.2 28)), (1, .ref (g.2.2 o1)), (3, .int y11)]) C (dk dX0_lay_1 20 rfl) (j := 2) rfl rfl (by decide) rfl ?_
              refine k_goto (tgt := 27) C (dk dX0_lay_1 21 rfl) (by decide) ?_
              refine k_sub C [1, 2, 0] rfl ?_
              exact hJ27 _ _ h
            ·
              refine k_aload_n C (dk dX0_lay_0 24 rfl) rfl 0 rfl ?_
              refine k_getR (q := 29) (D := RX0) (T := TX0) (N := 9) (ci := 0) (k := 0) C iCX0 rfl (by decide) rfl (by decide) (iW1 _ (List.mem_of_getElem? (i := 23) rfl)) rfl (dk dX0_lay_0 25 rfl) ?_
              refine k_iload_n C (dk dX0_lay_0 26 rfl) rfl 2 rfl ?_
              refine k_iald C rfl rfl (dk dX0_lay_0 27 rfl) h (fun x13 h => ?_)
              refine k_aload_n C (dk dX0_lay_0 28 rfl) rfl 0 rfl ?_
              refine k_getR (q := 29) (D := RX0) (T := TX0) (N := 9) (ci := 0) (k := 0) C iCX0 rfl (by decide) rfl (by decide) (iW1 _ (List.mem_of_getElem? (i := 23) rfl)) rfl (dk dX0_lay_0 29 rfl) ?_
              refine k_iload_n C (dk dX0_lay_0 30 rfl) rfl 3 rfl ?_
              refine k_iald C rfl rfl (dk dX0_lay_0 31 rfl) h (fun x14 h => ?_)
              refine k_isub C (dk dX0_lay_1 0 rfl) ?_
              refine k_mabs C (iW15 _ (List.mem_of_getElem? (i := 27) rfl)) (iW7 _ (List.mem_of_getElem? (i := 16) rfl)) (iW7 _ (List.mem_of_getElem? (i := 17) rfl)) (iW7 _ (List.mem_of_getElem? (i := 18) rfl)) (Nat.le_of_ble_eq_true rfl) (Nat.le_of_ble_eq_true rfl) (dk dX0_lay_1 1 rfl) ?_
              refine nmI h (fun x15 h => ?_)
              refine k_istore (lv' := [(4, .int x15), (0, .ref (g.2.2 28)), (1, .ref (g.2.2 o1)), (2, .int y3), (3, .int y11)]) C (dk dX0_lay_1 2 rfl) (by decide) rfl ?_
              refine k_aload_n C (dk dX0_lay_1 3 rfl) rfl 1 rfl ?_
              refine k_getR (q := 30) (D := RX0) (T := TX0) (N := 9) (ci := 0) (k := 1) C iCX0 rfl (by decide) rfl (by decide) (iW1 _ (List.mem_of_getElem? (i := 24) rfl)) rfl (dk dX0_lay_1 4 rfl) ?_
              refine k_iload_n C (dk dX0_lay_1 5 rfl) rfl 3 rfl ?_
              refine k_bipush (v := (36 : Int32)) C (dk dX0_lay_1 6 rfl) (by decide) ?_
              refine k_imul C (dk dX0_lay_1 7 rfl) ?_
              refine k_iload_n C (dk dX0_lay_1 8 rfl) rfl 4 rfl ?_
              refine k_iadd C (dk dX0_lay_1 9 rfl) ?_
              refine k_iload_n C (dk dX0_lay_1 10 rfl) rfl 3 rfl ?_
              refine k_iload_n C (dk dX0_lay_1 11 rfl) rfl 4 rfl ?_
              refine cl2_k h (fun x17 s16 hc h => ?_)
              refine k_cs (As := [.int y3, .int y11]) (st := [.int ((y3 * (36 : Int32)) + y11), .ref (g.2.2 30)]) C (qX7_apart l g hg hc) (iW16 _ (List.mem_of_getElem? (i := 1) rfl)) (iW7 _ (List.mem_of_getElem? (i := 20) rfl)) (iW7 _ (List.mem_of_getElem? (i := 4) rfl)) (iW7 _ (List.mem_of_getElem? (i := 21) rfl)) rfl rfl hdX7_apart (by decide) rfl rfl (Nat.le_of_ble_eq_true rfl) (dk dX0_lay_1 12 rfl) ?_
              refine k_iload C (dk dX0_lay_1 13 rfl) 0 rfl ?_
              refine k_iconst (v := (2 : Int32)) C (dk dX0_lay_1 14 rfl) (by decide) ?_
              refine k_idiv C (dk dX0_lay_1 15 rfl) (by decide) ?_
              refine k_iadd C (dk dX0_lay_1 16 rfl) ?_
              refine k_iast C rfl rfl (dk dX0_lay_1 17 rfl) h (fun s18 h => ?_)
              refine k_iinc (lv' := [(3, .int (y11 + 1)), (4, .int x15), (0, .ref (g.2.2 28)), (1, .ref (g.2.2 o1)), (2, .int y3)]) C (dk dX0_lay_1 18 rfl) (j := 4) rfl rfl (by decide) rfl ?_
              refine k_goto (tgt := 35) C (dk dX0_lay_1 19 rfl) (by decide) ?_
              refine k_sub C [2, 3, 4, 0] rfl ?_
              exact hJ35 _ _ h
          ·
            refine k_sub C [1, 2, 3, 0] rfl ?_
            exact hJ35 _ _ h
      ·
        refine k_sub C [1, 2, 0] rfl ?_
        exact hJ27 _ _ h
    ·
      refine k_aload_n C (dk dX0_lay_0 5 rfl) rfl 0 rfl ?_
      refine k_getR (q := 29) (D := RX0) (T := TX0) (N := 9) (ci := 0) (k := 0) C iCX0 rfl (by decide) rfl (by decide) (iW1 _ (List.mem_of_getElem? (i := 23) rfl)) rfl (dk dX0_lay_0 6 rfl) ?_
      refine k_iload_n C (dk dX0_lay_0 7 rfl) rfl 2 rfl ?_
      refine k_aload_n C (dk dX0_lay_0 8 rfl) rfl 1 rfl ?_
      refine k_iload_n C (dk dX0_lay_0 9 rfl) rfl 2 rfl ?_
      refine cl2_k h (fun x20 s19 hc h => ?_)
      refine k_cv (T := TX3) (N := 10) (ci := 1) (ob := o1) (As := [.int y1]) (st := [.int y1, .ref (g.2.2 29)]) C (qX3_heightAt l g hg ho1 hc) (iW16 _ (List.mem_of_getElem? (i := 0) rfl)) (iW7 _ (List.mem_of_getElem? (i := 24) rfl)) (iW7 _ (List.mem_of_getElem? (i := 25) rfl)) (iW0 _ (List.mem_of_getElem? (i := 15) rfl)) (iW7 _ (List.mem_of_getElem? (i := 26) rfl)) rfl rfl hdX3_heightAt (by decide) ho1 (by decide) rfl rfl rfl (Nat.le_of_ble_eq_true rfl) (dk dX0_lay_0 10 rfl) ?_
      refine k_iast C rfl rfl (dk dX0_lay_0 11 rfl) h (fun s21 h => ?_)
      refine k_iinc (lv' := [(2, .int (y1 + 1)), (0, .ref (g.2.2 28)), (1, .ref (g.2.2 o1))]) C (dk dX0_lay_0 12 rfl) (j := 2) rfl rfl (by decide) rfl ?_
      refine k_goto (tgt := 2) C (dk dX0_lay_0 13 rfl) (by decide) ?_
      refine k_sub C [1, 2, 0] rfl ?_
      exact hJ2 _ _ h
  ·
    refine k_sub C [1, 2, 0] rfl ?_
    exact hJ2 _ _ h
set_option maxRecDepth 100000 in
set_option maxHeartbeats 4000000 in
theorem qX0_nearOf (l : Launch) (g : G) (hg : gOK g) {a1 : Int32}  {s0 σe : St} {v : Int64} (h : mX0_nearOf a1 s0 = some (v, σe)) : Mc l g yX0_nearOf cX0_nearOf 2 (some .long) { frames := 1, cells := 0, slots := 0, locals := 21 } [.ref (g.2.2 28), .int a1] s0 (some (.long v)) σe := by
  refine k_enter hg pnRX0 rfl (Nat.le_of_ble_eq_true rfl) ?_
  intro WK E
  have C := kX_y E
  unfold mX0_nearOf at h
  show WK 0 [(0, .ref (g.2.2 28)), (1, .int a1)] [] s0
  refine k_iload_n C (dk dX0_nearOf_0 0 rfl) rfl 1 rfl ?_
  refine k_i2l C (dk dX0_nearOf_0 1 rfl) ?_
  refine cl2_k h (fun x2 s1 hc h => ?_)
  refine k_cn (As := [.long a1.toInt64]) (st := []) C (qX10_isCell l g hg hc) (iW5 _ (List.mem_of_getElem? (i := 21) rfl)) rfl rfl (List.mem_of_getElem? (i := 5) rfl) (iW5 _ (List.mem_of_getElem? (i := 20) rfl)) (iW0 _ (List.mem_of_getElem? (i := 2) rfl)) hdX10_isCell (by decide) rfl rfl (Nat.le_of_ble_eq_true rfl) (dk dX0_nearOf_0 2 rfl) ?_
  refine k_if_eq (tgt := 17) C (dk dX0_nearOf_0 3 rfl) (by decide) h (fun h => ?_) (fun h => ?_)
  ·
    refine k_lconst (v := (0 : Int64)) C (dk dX0_nearOf_0 9 rfl) (by decide) ?_
    exact k_lret E (dk dX0_nearOf_0 10 rfl) h
  ·
    refine k_aload_n C (dk dX0_nearOf_0 4 rfl) rfl 0 rfl ?_
    refine k_getR (q := 31) (D := RX0) (T := TX0) (N := 9) (ci := 0) (k := 2) C iCX0 rfl (by decide) rfl (by decide) (iW1 _ (List.mem_of_getElem? (i := 25) rfl)) rfl (dk dX0_nearOf_0 5 rfl) ?_
    refine k_iload_n C (dk dX0_nearOf_0 6 rfl) rfl 1 rfl ?_
    refine k_lald C rfl rfl (dk dX0_nearOf_0 7 rfl) h (fun x3 h => ?_)
    refine k_goto (tgt := 18) C (dk dX0_nearOf_0 8 rfl) (by decide) ?_
    exact k_lret E (dk dX0_nearOf_0 10 rfl) h
set_option maxRecDepth 100000 in
set_option maxHeartbeats 4000000 in
theorem qX0_isPair (l : Launch) (g : G) (hg : gOK g) {a1 : Int32} {a2 : Int32}  {s0 σe : St} {v : Int32} (h : mX0_isPair a1 a2 s0 = some (v, σe)) : Mc l g yX0_isPair cX0_isPair 3 (some .boolean) { frames := 2, cells := 0, slots := 0, locals := 42 } [.ref (g.2.2 28), .int a1, .int a2] s0 (some (.int v)) σe := by
  refine k_enter hg pnRX0 rfl (Nat.le_of_ble_eq_true rfl) ?_
  intro WK E
  have C := kX_y E
  unfold mX0_isPair at h
  show WK 0 [(0, .ref (g.2.2 28)), (1, .int a1), (2, .int a2)] [] s0
  refine k_iload_n C (dk dX0_isPair_0 0 rfl) rfl 1 rfl ?_
  refine k_i2l C (dk dX0_isPair_0 1 rfl) ?_
  refine cl2_k h (fun x2 s1 hc h => ?_)
  refine k_cn (As := [.long a1.toInt64]) (st := []) C (qX10_isCell l g hg hc) (iW5 _ (List.mem_of_getElem? (i := 21) rfl)) rfl rfl (List.mem_of_getElem? (i := 5) rfl) (iW5 _ (List.mem_of_getElem? (i := 20) rfl)) (iW0 _ (List.mem_of_getElem? (i := 2) rfl)) hdX10_isCell (by decide) rfl rfl (Nat.le_of_ble_eq_true rfl) (dk dX0_isPair_0 2 rfl) ?_
  refine k_if_eq (tgt := 25) C (dk dX0_isPair_0 3 rfl) (by decide) h (fun h => ?_) (fun h => ?_)
  ·
    refine k_iconst (v := (0 : Int32)) C (dk dX0_isPair_0 13 rfl) (by decide) ?_
    exact k_zret E (dk dX0_isPair_0 14 rfl) h
  ·
    refine k_aload_n C (dk dX0_isPair_0 4 rfl) rfl 0 rfl ?_
    refine k_getR (q := 32) (D := RX0) (T := TX0) (N := 9) (ci := 0) (k := 3) C iCX0 rfl (by decide) rfl (by decide) (iW1 _ (List.mem_of_getElem? (i := 26) rfl)) rfl (dk dX0_isPair_0 5 rfl) ?_
    refine k_iload_n C (dk dX0_isPair_0 6 rfl) rfl 1 rfl ?_
    refine k_lald C rfl rfl (dk dX0_isPair_0 7 rfl) h (fun x3 h => ?_)
    refine k_iload_n C (dk dX0_isPair_0 8 rfl) rfl 2 rfl ?_
    refine cl2_k h (fun x5 s4 hc h => ?_)
    refine k_cs (As := [.long x3, .int a2]) (st := []) C (qX7_has l g hg hc) (iW16 _ (List.mem_of_getElem? (i := 11) rfl)) (iW14 _ (List.mem_of_getElem? (i := 22) rfl)) (iW7 _ (List.mem_of_getElem? (i := 4) rfl)) (iW14 _ (List.mem_of_getElem? (i := 23) rfl)) rfl rfl hdX7_has (by decide) rfl rfl (Nat.le_of_ble_eq_true rfl) (dk dX0_isPair_0 9 rfl) ?_
    refine k_if_eq (tgt := 25) C (dk dX0_isPair_0 10 rfl) (by decide) h (fun h => ?_) (fun h => ?_)
    ·
      refine k_iconst (v := (0 : Int32)) C (dk dX0_isPair_0 13 rfl) (by decide) ?_
      exact k_zret E (dk dX0_isPair_0 14 rfl) h
    ·
      refine k_iconst (v := (1 : Int32)) C (dk dX0_isPair_0 11 rfl) (by decide) ?_
      refine k_goto (tgt := 26) C (dk dX0_isPair_0 12 rfl) (by decide) ?_
      exact k_zret E (dk dX0_isPair_0 14 rfl) h
set_option maxRecDepth 100000 in
set_option maxHeartbeats 4000000 in
theorem qJ13_bitCount_95d88 (l : Launch) (g : G) (hg : gOK g) {a0 : Int64}  {s0 σe : St} {v : Int32} (h : mJ13_bitCount_95d88 a0 s0 = some (v, σe)) : Mc l g yJ13_bitCount_95d88 cJ13_bitCount_95d88 2 (some .int) { frames := 0, cells := 0, slots := 0, locals := 0 } [.long a0] s0 (some (.int v)) σe := by
  refine k_enter hg pnRJ13 rfl (Nat.le_of_ble_eq_true rfl) ?_
  intro WK E
  have C := kX_y E
  unfold mJ13_bitCount_95d88 at h
  show WK 0 [(0, .long a0)] [] s0
  refine k_lload_n C (dk dJ13_bitCount_95d88_0 0 rfl) rfl 0 rfl ?_
  refine k_lload_n C (dk dJ13_bitCount_95d88_0 1 rfl) rfl 0 rfl ?_
  refine k_iconst (v := (1 : Int32)) C (dk dJ13_bitCount_95d88_0 2 rfl) (by decide) ?_
  refine k_lushr C (dk dJ13_bitCount_95d88_0 3 rfl) ?_
  refine k_ldc2 (v := (6148914691236517205 : Int64)) C (dk dJ13_bitCount_95d88_0 4 rfl) (iW16 _ (List.mem_of_getElem? (i := 23) rfl)) ?_
  refine k_land C (dk dJ13_bitCount_95d88_0 5 rfl) ?_
  refine k_lsub C (dk dJ13_bitCount_95d88_0 6 rfl) ?_
  refine nmL h (fun x1 h => ?_)
  refine k_lstore_n (lv' := [(0, .long x1)]) C (dk dJ13_bitCount_95d88_0 7 rfl) rfl (by decide) rfl ?_
  refine k_lload_n C (dk dJ13_bitCount_95d88_0 8 rfl) rfl 0 rfl ?_
  refine k_ldc2 (v := (3689348814741910323 : Int64)) C (dk dJ13_bitCount_95d88_0 9 rfl) (iW16 _ (List.mem_of_getElem? (i := 24) rfl)) ?_
  refine k_land C (dk dJ13_bitCount_95d88_0 10 rfl) ?_
  refine k_lload_n C (dk dJ13_bitCount_95d88_0 11 rfl) rfl 0 rfl ?_
  refine k_iconst (v := (2 : Int32)) C (dk dJ13_bitCount_95d88_0 12 rfl) (by decide) ?_
  refine k_lushr C (dk dJ13_bitCount_95d88_0 13 rfl) ?_
  refine k_ldc2 (v := (3689348814741910323 : Int64)) C (dk dJ13_bitCount_95d88_0 14 rfl) (iW16 _ (List.mem_of_getElem? (i := 24) rfl)) ?_
  refine k_land C (dk dJ13_bitCount_95d88_0 15 rfl) ?_
  refine k_ladd C (dk dJ13_bitCount_95d88_0 16 rfl) ?_
  refine nmL h (fun x2 h => ?_)
  refine k_lstore_n (lv' := [(0, .long x2)]) C (dk dJ13_bitCount_95d88_0 17 rfl) rfl (by decide) rfl ?_
  refine k_lload_n C (dk dJ13_bitCount_95d88_0 18 rfl) rfl 0 rfl ?_
  refine k_lload_n C (dk dJ13_bitCount_95d88_0 19 rfl) rfl 0 rfl ?_
  refine k_iconst (v := (4 : Int32)) C (dk dJ13_bitCount_95d88_0 20 rfl) (by decide) ?_
  refine k_lushr C (dk dJ13_bitCount_95d88_0 21 rfl) ?_
  refine k_ladd C (dk dJ13_bitCount_95d88_0 22 rfl) ?_
  refine k_ldc2 (v := (1085102592571150095 : Int64)) C (dk dJ13_bitCount_95d88_0 23 rfl) (iW16 _ (List.mem_of_getElem? (i := 25) rfl)) ?_
  refine k_land C (dk dJ13_bitCount_95d88_0 24 rfl) ?_
  refine nmL h (fun x3 h => ?_)
  refine k_lstore_n (lv' := [(0, .long x3)]) C (dk dJ13_bitCount_95d88_0 25 rfl) rfl (by decide) rfl ?_
  refine k_lload_n C (dk dJ13_bitCount_95d88_0 26 rfl) rfl 0 rfl ?_
  refine k_lload_n C (dk dJ13_bitCount_95d88_0 27 rfl) rfl 0 rfl ?_
  refine k_bipush (v := (8 : Int32)) C (dk dJ13_bitCount_95d88_0 28 rfl) (by decide) ?_
  refine k_lushr C (dk dJ13_bitCount_95d88_0 29 rfl) ?_
  refine k_ladd C (dk dJ13_bitCount_95d88_0 30 rfl) ?_
  refine nmL h (fun x4 h => ?_)
  refine k_lstore_n (lv' := [(0, .long x4)]) C (dk dJ13_bitCount_95d88_0 31 rfl) rfl (by decide) rfl ?_
  refine k_lload_n C (dk dJ13_bitCount_95d88_1 0 rfl) rfl 0 rfl ?_
  refine k_lload_n C (dk dJ13_bitCount_95d88_1 1 rfl) rfl 0 rfl ?_
  refine k_bipush (v := (16 : Int32)) C (dk dJ13_bitCount_95d88_1 2 rfl) (by decide) ?_
  refine k_lushr C (dk dJ13_bitCount_95d88_1 3 rfl) ?_
  refine k_ladd C (dk dJ13_bitCount_95d88_1 4 rfl) ?_
  refine nmL h (fun x5 h => ?_)
  refine k_lstore_n (lv' := [(0, .long x5)]) C (dk dJ13_bitCount_95d88_1 5 rfl) rfl (by decide) rfl ?_
  refine k_lload_n C (dk dJ13_bitCount_95d88_1 6 rfl) rfl 0 rfl ?_
  refine k_lload_n C (dk dJ13_bitCount_95d88_1 7 rfl) rfl 0 rfl ?_
  refine k_bipush (v := (32 : Int32)) C (dk dJ13_bitCount_95d88_1 8 rfl) (by decide) ?_
  refine k_lushr C (dk dJ13_bitCount_95d88_1 9 rfl) ?_
  refine k_ladd C (dk dJ13_bitCount_95d88_1 10 rfl) ?_
  refine nmL h (fun x6 h => ?_)
  refine k_lstore_n (lv' := [(0, .long x6)]) C (dk dJ13_bitCount_95d88_1 11 rfl) rfl (by decide) rfl ?_
  refine k_lload_n C (dk dJ13_bitCount_95d88_1 12 rfl) rfl 0 rfl ?_
  refine k_l2i C (dk dJ13_bitCount_95d88_1 13 rfl) ?_
  refine k_bipush (v := (127 : Int32)) C (dk dJ13_bitCount_95d88_1 14 rfl) (by decide) ?_
  refine k_iand C (dk dJ13_bitCount_95d88_1 15 rfl) ?_
  exact k_iret E (dk dJ13_bitCount_95d88_1 16 rfl) h
set_option maxRecDepth 100000 in
set_option maxHeartbeats 4000000 in
theorem qX0_bitsOf (l : Launch) (g : G) (hg : gOK g) {o0 : Nat} (ho0 : kd o0 = 11) {s0 σe : St} {v : Int32} (h : mX0_bitsOf o0 s0 = some (v, σe)) : Mc l g yX0_bitsOf cX0_bitsOf 3 (some .int) { frames := 1, cells := 0, slots := 0, locals := 21 } [.ref (g.2.2 o0)] s0 (some (.int v)) σe := by
  refine k_enter hg pnRX0 rfl (Nat.le_of_ble_eq_true rfl) ?_
  intro WK E
  have C := kX_y E
  unfold mX0_bitsOf at h
  show WK 0 [(0, .ref (g.2.2 o0))] [] s0
  refine k_iconst (v := (0 : Int32)) C (dk dX0_bitsOf_0 0 rfl) (by decide) ?_
  refine k_istore_n (lv' := [(1, .int (0 : Int32)), (0, .ref (g.2.2 o0))]) C (dk dX0_bitsOf_0 1 rfl) rfl (by decide) rfl ?_
  refine k_iconst (v := (0 : Int32)) C (dk dX0_bitsOf_0 2 rfl) (by decide) ?_
  refine k_istore_n (lv' := [(2, .int (0 : Int32)), (1, .int (0 : Int32)), (0, .ref (g.2.2 o0))]) C (dk dX0_bitsOf_0 3 rfl) rfl (by decide) rfl ?_
  refine kl_L (P := (fun J4 => ∀ (y1 : Int32) (y2 : Int32) (s3 : St), J4 y1 y2 s3 = some (v, σe) → WK 4 [(0, .ref (g.2.2 o0)), (1, .int y1), (2, .int y2)] [] s3)) h (fun _ _ _ h => nomatch h) (fun J4 hJ4 y1 y2 s3 h => ?_) (fun J4 hJ4 h => ?_)
  ·
    unfold mX0_bitsOf_4 at h
    refine k_iload_n C (dk dX0_bitsOf_0 4 rfl) rfl 2 rfl ?_
    refine k_aload_n C (dk dX0_bitsOf_0 5 rfl) rfl 0 rfl ?_
    refine k_alenL (v := (Int32.ofNat (ln o0))) C ho0 rfl rfl (dk dX0_bitsOf_0 6 rfl) ?_
    refine k_icmp_ge (tgt := 25) C (dk dX0_bitsOf_0 7 rfl) (by decide) h (fun h => ?_) (fun h => ?_)
    ·
      refine k_iload_n C (dk dX0_bitsOf_0 17 rfl) rfl 1 rfl ?_
      exact k_iret E (dk dX0_bitsOf_0 18 rfl) h
    ·
      refine k_iload_n C (dk dX0_bitsOf_0 8 rfl) rfl 1 rfl ?_
      refine k_aload_n C (dk dX0_bitsOf_0 9 rfl) rfl 0 rfl ?_
      refine k_iload_n C (dk dX0_bitsOf_0 10 rfl) rfl 2 rfl ?_
      refine k_lald C ho0 rfl (dk dX0_bitsOf_0 11 rfl) h (fun x4 h => ?_)
      refine cl2_k h (fun x6 s5 hc h => ?_)
      refine k_cs (As := [.long x4]) (st := [.int y1]) C (qJ13_bitCount_95d88 l g hg hc) (iW16 _ (List.mem_of_getElem? (i := 19) rfl)) (iW16 _ (List.mem_of_getElem? (i := 20) rfl)) (iW16 _ (List.mem_of_getElem? (i := 21) rfl)) (iW16 _ (List.mem_of_getElem? (i := 22) rfl)) rfl rfl hdJ13_bitCount_95d88 (by decide) rfl rfl (Nat.le_of_ble_eq_true rfl) (dk dX0_bitsOf_0 12 rfl) ?_
      refine k_iadd C (dk dX0_bitsOf_0 13 rfl) ?_
      refine nmI h (fun x7 h => ?_)
      refine k_istore_n (lv' := [(1, .int x7), (0, .ref (g.2.2 o0)), (2, .int y2)]) C (dk dX0_bitsOf_0 14 rfl) rfl (by decide) rfl ?_
      refine k_iinc (lv' := [(2, .int (y2 + 1)), (1, .int x7), (0, .ref (g.2.2 o0))]) C (dk dX0_bitsOf_0 15 rfl) (j := 2) rfl rfl (by decide) rfl ?_
      refine k_goto (tgt := 4) C (dk dX0_bitsOf_0 16 rfl) (by decide) ?_
      refine k_sub C [2, 1, 0] rfl ?_
      exact hJ4 _ _ _ h
  ·
    refine k_sub C [2, 1, 0] rfl ?_
    exact hJ4 _ _ _ h
set_option maxRecDepth 100000 in
set_option maxHeartbeats 4000000 in
theorem qX0_pairsInAll (l : Launch) (g : G) (hg : gOK g)   {s0 σe : St} {v : Int32} (h : mX0_pairsInAll s0 = some (v, σe)) : Mc l g yX0_pairsInAll cX0_pairsInAll 1 (some .int) { frames := 2, cells := 0, slots := 0, locals := 43 } [.ref (g.2.2 28)] s0 (some (.int v)) σe := by
  refine k_enter hg pnRX0 rfl (Nat.le_of_ble_eq_true rfl) ?_
  intro WK E
  have C := kX_y E
  unfold mX0_pairsInAll at h
  show WK 0 [(0, .ref (g.2.2 28))] [] s0
  refine k_aload_n C (dk dX0_pairsInAll_0 0 rfl) rfl 0 rfl ?_
  refine k_getR (q := 32) (D := RX0) (T := TX0) (N := 9) (ci := 0) (k := 3) C iCX0 rfl (by decide) rfl (by decide) (iW1 _ (List.mem_of_getElem? (i := 26) rfl)) rfl (dk dX0_pairsInAll_0 1 rfl) ?_
  refine cl2_k h (fun x2 s1 hc h => ?_)
  refine k_cs (As := [.ref (g.2.2 32)]) (st := []) C (qX0_bitsOf l g hg rfl hc) (iW16 _ (List.mem_of_getElem? (i := 16) rfl)) (iW16 _ (List.mem_of_getElem? (i := 17) rfl)) (iW0 _ (List.mem_of_getElem? (i := 21) rfl)) (iW16 _ (List.mem_of_getElem? (i := 18) rfl)) rfl rfl hdX0_bitsOf (by decide) rfl rfl (Nat.le_of_ble_eq_true rfl) (dk dX0_pairsInAll_0 2 rfl) ?_
  exact k_iret E (dk dX0_pairsInAll_0 3 rfl) h
set_option maxRecDepth 100000 in
set_option maxHeartbeats 4000000 in
theorem qX0_pairAt (l : Launch) (g : G) (hg : gOK g) {a1 : Int32}  {s0 σe : St} {v : Int32} (h : mX0_pairAt a1 s0 = some (v, σe)) : Mc l g yX0_pairAt cX0_pairAt 5 (some .int) { frames := 2, cells := 0, slots := 0, locals := 42 } [.ref (g.2.2 28), .int a1] s0 (some (.int v)) σe := by
  refine k_enter hg pnRX0 rfl (Nat.le_of_ble_eq_true rfl) ?_
  intro WK E
  have C := kX_y E
  unfold mX0_pairAt at h
  show WK 0 [(0, .ref (g.2.2 28)), (1, .int a1)] [] s0
  refine k_iload_n C (dk dX0_pairAt_0 0 rfl) rfl 1 rfl ?_
  refine k_istore_n (lv' := [(2, .int a1), (0, .ref (g.2.2 28)), (1, .int a1)]) C (dk dX0_pairAt_0 1 rfl) rfl (by decide) rfl ?_
  refine k_iconst (v := (0 : Int32)) C (dk dX0_pairAt_0 2 rfl) (by decide) ?_
  refine k_istore_n (lv' := [(3, .int (0 : Int32)), (2, .int a1), (0, .ref (g.2.2 28)), (1, .int a1)]) C (dk dX0_pairAt_0 3 rfl) rfl (by decide) rfl ?_
  refine kl_L (P := (fun J4 => ∀ (y1 : Int32) (y2 : Int32) (s3 : St), J4 y1 y2 s3 = some (v, σe) → WK 4 [(0, .ref (g.2.2 28)), (2, .int y1), (3, .int y2)] [] s3)) h (fun _ _ _ h => nomatch h) (fun J4 hJ4 y1 y2 s3 h => ?_) (fun J4 hJ4 h => ?_)
  ·
    unfold mX0_pairAt_4 at h
    refine k_iload_n C (dk dX0_pairAt_0 4 rfl) rfl 2 rfl ?_
    refine k_bipush (v := (36 : Int32)) C (dk dX0_pairAt_0 5 rfl) (by decide) ?_
    refine k_icmp_ge (tgt := 61) C (dk dX0_pairAt_0 6 rfl) (by decide) h (fun h => ?_) (fun h => ?_)
    ·
      refine k_bipush (v := (-4 : Int32)) C (dk dX0_pairAt_1 0 rfl) (by decide) ?_
      exact k_iret E (dk dX0_pairAt_1 1 rfl) h
    ·
      refine k_iconst (v := (0 : Int32)) C (dk dX0_pairAt_0 7 rfl) (by decide) ?_
      refine k_istore (lv' := [(4, .int (0 : Int32)), (0, .ref (g.2.2 28)), (2, .int y1), (3, .int y2)]) C (dk dX0_pairAt_0 8 rfl) (by decide) rfl ?_
      refine kl_L (P := (fun J13 => ∀ (y4 : Int32) (y5 : Int32) (s6 : St), J13 y4 y5 s6 = some (v, σe) → WK 13 [(0, .ref (g.2.2 28)), (2, .int y4), (3, .int y2), (4, .int y5)] [] s6)) h (fun _ _ _ h => nomatch h) (fun J13 hJ13 y4 y5 s6 h => ?_) (fun J13 hJ13 h => ?_)
      ·
        unfold mX0_pairAt_13 at h
        refine k_iload C (dk dX0_pairAt_0 9 rfl) 3 rfl ?_
        refine k_bipush (v := (36 : Int32)) C (dk dX0_pairAt_0 10 rfl) (by decide) ?_
        refine k_icmp_ge (tgt := 55) C (dk dX0_pairAt_0 11 rfl) (by decide) h (fun h => ?_) (fun h => ?_)
        ·
          refine k_iinc (lv' := [(3, .int (y2 + 1)), (0, .ref (g.2.2 28)), (2, .int y4), (4, .int y5)]) C (dk dX0_pairAt_0 30 rfl) (j := 2) rfl rfl (by decide) rfl ?_
          refine k_goto (tgt := 4) C (dk dX0_pairAt_0 31 rfl) (by decide) ?_
          refine k_sub C [1, 2, 0] rfl ?_
          exact hJ4 _ _ _ h
        ·
          refine k_aload_n C (dk dX0_pairAt_0 12 rfl) rfl 0 rfl ?_
          refine k_getR (q := 32) (D := RX0) (T := TX0) (N := 9) (ci := 0) (k := 3) C iCX0 rfl (by decide) rfl (by decide) (iW1 _ (List.mem_of_getElem? (i := 26) rfl)) rfl (dk dX0_pairAt_0 13 rfl) ?_
          refine k_iload_n C (dk dX0_pairAt_0 14 rfl) rfl 2 rfl ?_
          refine k_lald C rfl rfl (dk dX0_pairAt_0 15 rfl) h (fun x7 h => ?_)
          refine k_iload C (dk dX0_pairAt_0 16 rfl) 3 rfl ?_
          refine cl2_k h (fun x9 s8 hc h => ?_)
          refine k_cs (As := [.long x7, .int y5]) (st := []) C (qX7_has l g hg hc) (iW16 _ (List.mem_of_getElem? (i := 11) rfl)) (iW14 _ (List.mem_of_getElem? (i := 22) rfl)) (iW7 _ (List.mem_of_getElem? (i := 4) rfl)) (iW14 _ (List.mem_of_getElem? (i := 23) rfl)) rfl rfl hdX7_has (by decide) rfl rfl (Nat.le_of_ble_eq_true rfl) (dk dX0_pairAt_0 17 rfl) ?_
          refine kl_J (P := (fun J49 => ∀ (y10 : Int32) (y11 : Int32) (s12 : St), J49 y10 y11 s12 = some (v, σe) → WK 49 [(0, .ref (g.2.2 28)), (2, .int y10), (3, .int y2), (4, .int y11)] [] s12)) h (fun y10 y11 s12 h => ?_) (fun J49 hJ49 h => ?_)
          ·
            unfold mX0_pairAt_49 at h
            refine k_iinc (lv' := [(4, .int (y11 + 1)), (0, .ref (g.2.2 28)), (2, .int y10), (3, .int y2)]) C (dk dX0_pairAt_0 28 rfl) (j := 3) rfl rfl (by decide) rfl ?_
            refine k_goto (tgt := 13) C (dk dX0_pairAt_0 29 rfl) (by decide) ?_
            refine k_sub C [1, 2, 3, 0] rfl ?_
            exact hJ13 _ _ _ h
          ·
            refine k_if_eq (tgt := 49) C (dk dX0_pairAt_0 18 rfl) (by decide) h (fun h => ?_) (fun h => ?_)
            ·
              exact hJ49 _ _ _ h
            ·
              refine k_iload_n C (dk dX0_pairAt_0 19 rfl) rfl 1 rfl ?_
              refine k_if_ne (tgt := 46) C (dk dX0_pairAt_0 20 rfl) (by decide) h (fun h => ?_) (fun h => ?_)
              ·
                refine k_iinc (lv' := [(2, .int (y4 + (-1))), (0, .ref (g.2.2 28)), (3, .int y2), (4, .int y5)]) C (dk dX0_pairAt_0 27 rfl) (j := 1) rfl rfl (by decide) rfl ?_
                refine k_sub C [1, 0, 2, 3] rfl ?_
                exact hJ49 _ _ _ h
              ·
                refine k_bipush (v := (100 : Int32)) C (dk dX0_pairAt_0 21 rfl) (by decide) ?_
                refine k_iload_n C (dk dX0_pairAt_0 22 rfl) rfl 2 rfl ?_
                refine k_imul C (dk dX0_pairAt_0 23 rfl) ?_
                refine k_iload C (dk dX0_pairAt_0 24 rfl) 3 rfl ?_
                refine k_iadd C (dk dX0_pairAt_0 25 rfl) ?_
                exact k_iret E (dk dX0_pairAt_0 26 rfl) h
      ·
        refine k_sub C [1, 2, 3, 0] rfl ?_
        exact hJ13 _ _ _ h
  ·
    refine k_sub C [2, 1, 0] rfl ?_
    exact hJ4 _ _ _ h
set_option maxRecDepth 100000 in
set_option maxHeartbeats 4000000 in
theorem qX0_farsInAll (l : Launch) (g : G) (hg : gOK g)   {s0 σe : St} {v : Int64} (h : mX0_farsInAll s0 = some (v, σe)) : Mc l g yX0_farsInAll cX0_farsInAll 5 (some .long) { frames := 2, cells := 0, slots := 0, locals := 42 } [.ref (g.2.2 28)] s0 (some (.long v)) σe := by
  refine k_enter hg pnRX0 rfl (Nat.le_of_ble_eq_true rfl) ?_
  intro WK E
  have C := kX_y E
  unfold mX0_farsInAll at h
  show WK 0 [(0, .ref (g.2.2 28))] [] s0
  refine k_lconst (v := (0 : Int64)) C (dk dX0_farsInAll_0 0 rfl) (by decide) ?_
  refine k_lstore_n (lv' := [(1, .long (0 : Int64)), (0, .ref (g.2.2 28))]) C (dk dX0_farsInAll_0 1 rfl) rfl (by decide) rfl ?_
  refine k_iconst (v := (0 : Int32)) C (dk dX0_farsInAll_0 2 rfl) (by decide) ?_
  refine k_istore_n (lv' := [(3, .int (0 : Int32)), (1, .long (0 : Int64)), (0, .ref (g.2.2 28))]) C (dk dX0_farsInAll_0 3 rfl) rfl (by decide) rfl ?_
  refine kl_L (P := (fun J4 => ∀ (y1 : Int64) (y2 : Int32) (s3 : St), J4 y1 y2 s3 = some (v, σe) → WK 4 [(0, .ref (g.2.2 28)), (1, .long y1), (3, .int y2)] [] s3)) h (fun _ _ _ h => nomatch h) (fun J4 hJ4 y1 y2 s3 h => ?_) (fun J4 hJ4 h => ?_)
  ·
    unfold mX0_farsInAll_4 at h
    refine k_iload_n C (dk dX0_farsInAll_0 4 rfl) rfl 2 rfl ?_
    refine k_bipush (v := (36 : Int32)) C (dk dX0_farsInAll_0 5 rfl) (by decide) ?_
    refine k_icmp_ge (tgt := 62) C (dk dX0_farsInAll_0 6 rfl) (by decide) h (fun h => ?_) (fun h => ?_)
    ·
      refine k_lload_n C (dk dX0_farsInAll_1 3 rfl) rfl 1 rfl ?_
      exact k_lret E (dk dX0_farsInAll_1 4 rfl) h
    ·
      refine k_iconst (v := (0 : Int32)) C (dk dX0_farsInAll_0 7 rfl) (by decide) ?_
      refine k_istore (lv' := [(4, .int (0 : Int32)), (0, .ref (g.2.2 28)), (1, .long y1), (3, .int y2)]) C (dk dX0_farsInAll_0 8 rfl) (by decide) rfl ?_
      refine kl_L (P := (fun J13 => ∀ (y4 : Int64) (y5 : Int32) (s6 : St), J13 y4 y5 s6 = some (v, σe) → WK 13 [(0, .ref (g.2.2 28)), (1, .long y4), (3, .int y2), (4, .int y5)] [] s6)) h (fun _ _ _ h => nomatch h) (fun J13 hJ13 y4 y5 s6 h => ?_) (fun J13 hJ13 h => ?_)
      ·
        unfold mX0_farsInAll_13 at h
        refine k_iload C (dk dX0_farsInAll_0 9 rfl) 3 rfl ?_
        refine k_bipush (v := (36 : Int32)) C (dk dX0_farsInAll_0 10 rfl) (by decide) ?_
        refine k_icmp_ge (tgt := 56) C (dk dX0_farsInAll_0 11 rfl) (by decide) h (fun h => ?_) (fun h => ?_)
        ·
          refine k_iinc (lv' := [(3, .int (y2 + 1)), (0, .ref (g.2.2 28)), (1, .long y4), (4, .int y5)]) C (dk dX0_farsInAll_1 1 rfl) (j := 2) rfl rfl (by decide) rfl ?_
          refine k_goto (tgt := 4) C (dk dX0_farsInAll_1 2 rfl) (by decide) ?_
          refine k_sub C [1, 2, 0] rfl ?_
          exact hJ4 _ _ _ h
        ·
          refine k_aload_n C (dk dX0_farsInAll_0 12 rfl) rfl 0 rfl ?_
          refine k_getR (q := 32) (D := RX0) (T := TX0) (N := 9) (ci := 0) (k := 3) C iCX0 rfl (by decide) rfl (by decide) (iW1 _ (List.mem_of_getElem? (i := 26) rfl)) rfl (dk dX0_farsInAll_0 13 rfl) ?_
          refine k_iload_n C (dk dX0_farsInAll_0 14 rfl) rfl 2 rfl ?_
          refine k_lald C rfl rfl (dk dX0_farsInAll_0 15 rfl) h (fun x7 h => ?_)
          refine k_iload C (dk dX0_farsInAll_0 16 rfl) 3 rfl ?_
          refine cl2_k h (fun x9 s8 hc h => ?_)
          refine k_cs (As := [.long x7, .int y5]) (st := []) C (qX7_has l g hg hc) (iW16 _ (List.mem_of_getElem? (i := 11) rfl)) (iW14 _ (List.mem_of_getElem? (i := 22) rfl)) (iW7 _ (List.mem_of_getElem? (i := 4) rfl)) (iW14 _ (List.mem_of_getElem? (i := 23) rfl)) rfl rfl hdX7_has (by decide) rfl rfl (Nat.le_of_ble_eq_true rfl) (dk dX0_farsInAll_0 17 rfl) ?_
          refine kl_J (P := (fun J50 => ∀ (y10 : Int64) (y11 : Int32) (s12 : St), J50 y10 y11 s12 = some (v, σe) → WK 50 [(0, .ref (g.2.2 28)), (1, .long y10), (3, .int y2), (4, .int y11)] [] s12)) h (fun y10 y11 s12 h => ?_) (fun J50 hJ50 h => ?_)
          ·
            unfold mX0_farsInAll_50 at h
            refine k_iinc (lv' := [(4, .int (y11 + 1)), (0, .ref (g.2.2 28)), (1, .long y10), (3, .int y2)]) C (dk dX0_farsInAll_0 31 rfl) (j := 3) rfl rfl (by decide) rfl ?_
            refine k_goto (tgt := 13) C (dk dX0_farsInAll_1 0 rfl) (by decide) ?_
            refine k_sub C [1, 2, 3, 0] rfl ?_
            exact hJ13 _ _ _ h
          ·
            refine k_if_eq (tgt := 50) C (dk dX0_farsInAll_0 18 rfl) (by decide) h (fun h => ?_) (fun h => ?_)
            ·
              exact hJ50 _ _ _ h
            ·
              refine k_lload_n C (dk dX0_farsInAll_0 19 rfl) rfl 1 rfl ?_
              refine k_aload_n C (dk dX0_farsInAll_0 20 rfl) rfl 0 rfl ?_
              refine k_getR (q := 30) (D := RX0) (T := TX0) (N := 9) (ci := 0) (k := 1) C iCX0 rfl (by decide) rfl (by decide) (iW1 _ (List.mem_of_getElem? (i := 24) rfl)) rfl (dk dX0_farsInAll_0 21 rfl) ?_
              refine k_iload_n C (dk dX0_farsInAll_0 22 rfl) rfl 2 rfl ?_
              refine k_bipush (v := (36 : Int32)) C (dk dX0_farsInAll_0 23 rfl) (by decide) ?_
              refine k_imul C (dk dX0_farsInAll_0 24 rfl) ?_
              refine k_iload C (dk dX0_farsInAll_0 25 rfl) 3 rfl ?_
              refine k_iadd C (dk dX0_farsInAll_0 26 rfl) ?_
              refine k_iald C rfl rfl (dk dX0_farsInAll_0 27 rfl) h (fun x13 h => ?_)
              refine k_i2l C (dk dX0_farsInAll_0 28 rfl) ?_
              refine k_ladd C (dk dX0_farsInAll_0 29 rfl) ?_
              refine nmL h (fun x14 h => ?_)
              refine k_lstore_n (lv' := [(1, .long x14), (0, .ref (g.2.2 28)), (3, .int y2), (4, .int y5)]) C (dk dX0_farsInAll_0 30 rfl) rfl (by decide) rfl ?_
              refine k_sub C [1, 0, 2, 3] rfl ?_
              exact hJ50 _ _ _ h
      ·
        refine k_sub C [1, 2, 3, 0] rfl ?_
        exact hJ13 _ _ _ h
  ·
    refine k_sub C [2, 1, 0] rfl ?_
    exact hJ4 _ _ _ h
set_option maxRecDepth 100000 in
set_option maxHeartbeats 4000000 in
theorem qJ7_fill_53178 (l : Launch) (g : G) (hg : gOK g) {o0 : Nat} {a1 : Int32} (ho0 : kd o0 = 10) {s0 σe : St} (h : mJ7_fill_53178 o0 a1 s0 = some σe) : Mc l g yJ7_fill_53178 cJ7_fill_53178 4 none { frames := 0, cells := 0, slots := 0, locals := 0 } [.ref (g.2.2 o0), .int a1] s0 none σe := by
  refine k_enter hg pnRJ7 rfl (Nat.le_of_ble_eq_true rfl) ?_
  intro WK E
  have C := kX_y E
  unfold mJ7_fill_53178 at h
  show WK 0 [(0, .ref (g.2.2 o0)), (1, .int a1)] [] s0
  refine k_iconst (v := (0 : Int32)) C (dk dJ7_fill_53178_0 0 rfl) (by decide) ?_
  refine k_istore_n (lv' := [(2, .int (0 : Int32)), (0, .ref (g.2.2 o0)), (1, .int a1)]) C (dk dJ7_fill_53178_0 1 rfl) rfl (by decide) rfl ?_
  refine k_aload_n C (dk dJ7_fill_53178_0 2 rfl) rfl 1 rfl ?_
  refine k_alenI (v := (Int32.ofNat (ln o0))) C ho0 rfl rfl (dk dJ7_fill_53178_0 3 rfl) ?_
  refine nmI h (fun x1 h => ?_)
  refine k_istore_n (lv' := [(3, .int x1), (2, .int (0 : Int32)), (0, .ref (g.2.2 o0)), (1, .int a1)]) C (dk dJ7_fill_53178_0 4 rfl) rfl (by decide) rfl ?_
  refine kl_L (P := (fun J5 => ∀ (y2 : Int32) (s3 : St), J5 y2 s3 = some σe → WK 5 [(0, .ref (g.2.2 o0)), (1, .int a1), (2, .int y2), (3, .int x1)] [] s3)) h (fun _ _ h => nomatch h) (fun J5 hJ5 y2 s3 h => ?_) (fun J5 hJ5 h => ?_)
  ·
    unfold mJ7_fill_53178_5 at h
    refine k_iload_n C (dk dJ7_fill_53178_0 5 rfl) rfl 2 rfl ?_
    refine k_iload_n C (dk dJ7_fill_53178_0 6 rfl) rfl 3 rfl ?_
    refine k_icmp_ge (tgt := 20) C (dk dJ7_fill_53178_0 7 rfl) (by decide) h (fun h => ?_) (fun h => ?_)
    ·
      exact k_vret E (dk dJ7_fill_53178_0 14 rfl) h
    ·
      refine k_aload_n C (dk dJ7_fill_53178_0 8 rfl) rfl 0 rfl ?_
      refine k_iload_n C (dk dJ7_fill_53178_0 9 rfl) rfl 2 rfl ?_
      refine k_iload_n C (dk dJ7_fill_53178_0 10 rfl) rfl 1 rfl ?_
      refine k_iast C ho0 rfl (dk dJ7_fill_53178_0 11 rfl) h (fun s4 h => ?_)
      refine k_iinc (lv' := [(2, .int (y2 + 1)), (0, .ref (g.2.2 o0)), (1, .int a1), (3, .int x1)]) C (dk dJ7_fill_53178_0 12 rfl) (j := 2) rfl rfl (by decide) rfl ?_
      refine k_goto (tgt := 5) C (dk dJ7_fill_53178_0 13 rfl) (by decide) ?_
      refine k_sub C [1, 2, 0, 3] rfl ?_
      exact hJ5 _ _ h
  ·
    refine k_sub C [2, 3, 1, 0] rfl ?_
    exact hJ5 _ _ h
set_option maxRecDepth 100000 in
set_option maxHeartbeats 4000000 in
theorem qJ7_fill_d0a16 (l : Launch) (g : G) (hg : gOK g) {o0 : Nat} {a1 : Int64} (ho0 : kd o0 = 11) {s0 σe : St} (h : mJ7_fill_d0a16 o0 a1 s0 = some σe) : Mc l g yJ7_fill_d0a16 cJ7_fill_d0a16 5 none { frames := 0, cells := 0, slots := 0, locals := 0 } [.ref (g.2.2 o0), .long a1] s0 none σe := by
  refine k_enter hg pnRJ7 rfl (Nat.le_of_ble_eq_true rfl) ?_
  intro WK E
  have C := kX_y E
  unfold mJ7_fill_d0a16 at h
  show WK 0 [(0, .ref (g.2.2 o0)), (1, .long a1)] [] s0
  refine k_iconst (v := (0 : Int32)) C (dk dJ7_fill_d0a16_0 0 rfl) (by decide) ?_
  refine k_istore_n (lv' := [(3, .int (0 : Int32)), (0, .ref (g.2.2 o0)), (1, .long a1)]) C (dk dJ7_fill_d0a16_0 1 rfl) rfl (by decide) rfl ?_
  refine k_aload_n C (dk dJ7_fill_d0a16_0 2 rfl) rfl 1 rfl ?_
  refine k_alenL (v := (Int32.ofNat (ln o0))) C ho0 rfl rfl (dk dJ7_fill_d0a16_0 3 rfl) ?_
  refine nmI h (fun x1 h => ?_)
  refine k_istore (lv' := [(4, .int x1), (3, .int (0 : Int32)), (0, .ref (g.2.2 o0)), (1, .long a1)]) C (dk dJ7_fill_d0a16_0 4 rfl) (by decide) rfl ?_
  refine kl_L (P := (fun J6 => ∀ (y2 : Int32) (s3 : St), J6 y2 s3 = some σe → WK 6 [(0, .ref (g.2.2 o0)), (1, .long a1), (3, .int y2), (4, .int x1)] [] s3)) h (fun _ _ h => nomatch h) (fun J6 hJ6 y2 s3 h => ?_) (fun J6 hJ6 h => ?_)
  ·
    unfold mJ7_fill_d0a16_6 at h
    refine k_iload_n C (dk dJ7_fill_d0a16_0 5 rfl) rfl 2 rfl ?_
    refine k_iload C (dk dJ7_fill_d0a16_0 6 rfl) 3 rfl ?_
    refine k_icmp_ge (tgt := 22) C (dk dJ7_fill_d0a16_0 7 rfl) (by decide) h (fun h => ?_) (fun h => ?_)
    ·
      exact k_vret E (dk dJ7_fill_d0a16_0 14 rfl) h
    ·
      refine k_aload_n C (dk dJ7_fill_d0a16_0 8 rfl) rfl 0 rfl ?_
      refine k_iload_n C (dk dJ7_fill_d0a16_0 9 rfl) rfl 2 rfl ?_
      refine k_lload_n C (dk dJ7_fill_d0a16_0 10 rfl) rfl 1 rfl ?_
      refine k_last C ho0 rfl (dk dJ7_fill_d0a16_0 11 rfl) h (fun s4 h => ?_)
      refine k_iinc (lv' := [(3, .int (y2 + 1)), (0, .ref (g.2.2 o0)), (1, .long a1), (4, .int x1)]) C (dk dJ7_fill_d0a16_0 12 rfl) (j := 2) rfl rfl (by decide) rfl ?_
      refine k_goto (tgt := 6) C (dk dJ7_fill_d0a16_0 13 rfl) (by decide) ?_
      refine k_sub C [1, 2, 0, 3] rfl ?_
      exact hJ6 _ _ h
  ·
    refine k_sub C [2, 3, 1, 0] rfl ?_
    exact hJ6 _ _ h
set_option maxRecDepth 100000 in
set_option maxHeartbeats 4000000 in
theorem qX0_start (l : Launch) (g : G) (hg : gOK g) {a1 : Int32} {a2 : Int32}  {s0 σe : St} (h : mX0_start a1 a2 s0 = some σe) : Mc l g yX0_start cX0_start 3 none { frames := 3, cells := 0, slots := 0, locals := 64 } [.ref (g.2.2 28), .int a1, .int a2] s0 none σe := by
  refine k_enter hg pnRX0 rfl (Nat.le_of_ble_eq_true rfl) ?_
  intro WK E
  have C := kX_y E
  unfold mX0_start at h
  show WK 0 [(0, .ref (g.2.2 28)), (1, .int a1), (2, .int a2)] [] s0
  refine k_aload_n C (dk dX0_start_0 0 rfl) rfl 0 rfl ?_
  refine k_getR (q := 35) (D := RX0) (T := TX0) (N := 9) (ci := 0) (k := 6) C iCX0 rfl (by decide) rfl (by decide) (iW1 _ (List.mem_of_getElem? (i := 29) rfl)) rfl (dk dX0_start_0 1 rfl) ?_
  refine k_bipush (v := (-4 : Int32)) C (dk dX0_start_0 2 rfl) (by decide) ?_
  refine cl1_k h (fun s1 hc h => ?_)
  refine k_cs (As := [.ref (g.2.2 35), .int (-4 : Int32)]) (st := []) C (qJ7_fill_53178 l g hg rfl hc) (iW20 _ (List.mem_of_getElem? (i := 5) rfl)) (iW20 _ (List.mem_of_getElem? (i := 6) rfl)) (iW20 _ (List.mem_of_getElem? (i := 7) rfl)) (iW20 _ (List.mem_of_getElem? (i := 8) rfl)) rfl rfl hdJ7_fill_53178 (by decide) rfl rfl (Nat.le_of_ble_eq_true rfl) (dk dX0_start_0 3 rfl) ?_
  refine k_aload_n C (dk dX0_start_0 4 rfl) rfl 0 rfl ?_
  refine k_getR (q := 33) (D := RX0) (T := TX0) (N := 9) (ci := 0) (k := 4) C iCX0 rfl (by decide) rfl (by decide) (iW1 _ (List.mem_of_getElem? (i := 27) rfl)) rfl (dk dX0_start_0 5 rfl) ?_
  refine k_lconst (v := (0 : Int64)) C (dk dX0_start_0 6 rfl) (by decide) ?_
  refine cl1_k h (fun s2 hc h => ?_)
  refine k_cs (As := [.ref (g.2.2 33), .long (0 : Int64)]) (st := []) C (qJ7_fill_d0a16 l g hg rfl hc) (iW20 _ (List.mem_of_getElem? (i := 9) rfl)) (iW20 _ (List.mem_of_getElem? (i := 10) rfl)) (iW20 _ (List.mem_of_getElem? (i := 7) rfl)) (iW20 _ (List.mem_of_getElem? (i := 11) rfl)) rfl rfl hdJ7_fill_d0a16 (by decide) rfl rfl (Nat.le_of_ble_eq_true rfl) (dk dX0_start_0 7 rfl) ?_
  refine k_aload_n C (dk dX0_start_0 8 rfl) rfl 0 rfl ?_
  refine k_iload_n C (dk dX0_start_0 9 rfl) rfl 1 rfl ?_
  refine k_iload_n C (dk dX0_start_0 10 rfl) rfl 2 rfl ?_
  refine cl2_k h (fun x4 s3 hc h => ?_)
  refine k_cv (T := TX0) (N := 9) (ci := 0) (ob := 28) (As := [.int a1, .int a2]) (st := []) C (qX0_isPair l g hg hc) (iW19 _ (List.mem_of_getElem? (i := 27) rfl)) (iW19 _ (List.mem_of_getElem? (i := 28) rfl)) (iW19 _ (List.mem_of_getElem? (i := 29) rfl)) (iW0 _ (List.mem_of_getElem? (i := 21) rfl)) (iW20 _ (List.mem_of_getElem? (i := 0) rfl)) rfl rfl hdX0_isPair (by decide) rfl (by decide) rfl rfl rfl (Nat.le_of_ble_eq_true rfl) (dk dX0_start_0 11 rfl) ?_
  refine k_if_eq (tgt := 48) C (dk dX0_start_0 12 rfl) (by decide) h (fun h => ?_) (fun h => ?_)
  ·
    exact k_vret E (dk dX0_start_0 28 rfl) h
  ·
    refine k_aload_n C (dk dX0_start_0 13 rfl) rfl 0 rfl ?_
    refine k_getR (q := 33) (D := RX0) (T := TX0) (N := 9) (ci := 0) (k := 4) C iCX0 rfl (by decide) rfl (by decide) (iW1 _ (List.mem_of_getElem? (i := 27) rfl)) rfl (dk dX0_start_0 14 rfl) ?_
    refine k_iload_n C (dk dX0_start_0 15 rfl) rfl 1 rfl ?_
    refine k_iload_n C (dk dX0_start_0 16 rfl) rfl 2 rfl ?_
    refine cl2_k h (fun x6 s5 hc h => ?_)
    refine k_cs (As := [.int a2]) (st := [.int a1, .ref (g.2.2 33)]) C (qX7_bit l g hg hc) (iW20 _ (List.mem_of_getElem? (i := 12) rfl)) (iW14 _ (List.mem_of_getElem? (i := 15) rfl)) (iW7 _ (List.mem_of_getElem? (i := 4) rfl)) (iW14 _ (List.mem_of_getElem? (i := 16) rfl)) rfl rfl hdX7_bit (by decide) rfl rfl (Nat.le_of_ble_eq_true rfl) (dk dX0_start_0 17 rfl) ?_
    refine k_last C rfl rfl (dk dX0_start_0 18 rfl) h (fun s7 h => ?_)
    refine k_aload_n C (dk dX0_start_0 19 rfl) rfl 0 rfl ?_
    refine k_getR (q := 35) (D := RX0) (T := TX0) (N := 9) (ci := 0) (k := 6) C iCX0 rfl (by decide) rfl (by decide) (iW1 _ (List.mem_of_getElem? (i := 29) rfl)) rfl (dk dX0_start_0 20 rfl) ?_
    refine k_iload_n C (dk dX0_start_0 21 rfl) rfl 1 rfl ?_
    refine k_bipush (v := (36 : Int32)) C (dk dX0_start_0 22 rfl) (by decide) ?_
    refine k_imul C (dk dX0_start_0 23 rfl) ?_
    refine k_iload_n C (dk dX0_start_0 24 rfl) rfl 2 rfl ?_
    refine k_iadd C (dk dX0_start_0 25 rfl) ?_
    refine k_iconst (v := (0 : Int32)) C (dk dX0_start_0 26 rfl) (by decide) ?_
    refine k_iast C rfl rfl (dk dX0_start_0 27 rfl) h (fun s8 h => ?_)
    exact k_vret E (dk dX0_start_0 28 rfl) h
set_option maxRecDepth 100000 in
set_option maxHeartbeats 4000000 in
theorem qX7_cellTo (l : Launch) (g : G) (hg : gOK g) {a0 : Int32} {a1 : Int32}  {s0 σe : St} {v : Int32} (h : mX7_cellTo a0 a1 s0 = some (v, σe)) : Mc l g yX7_cellTo cX7_cellTo 2 (some .int) { frames := 1, cells := 0, slots := 0, locals := 21 } [.int a0, .int a1] s0 (some (.int v)) σe := by
  refine k_enter hg pnRX7 rfl (Nat.le_of_ble_eq_true rfl) ?_
  intro WK E
  have C := kX_y E
  unfold mX7_cellTo at h
  show WK 0 [(0, .int a0), (1, .int a1)] [] s0
  refine k_iload_n C (dk dX7_cellTo_0 0 rfl) rfl 0 rfl ?_
  refine k_i2l C (dk dX7_cellTo_0 1 rfl) ?_
  refine cl2_k h (fun x2 s1 hc h => ?_)
  refine k_cn (As := [.long a0.toInt64]) (st := []) C (qX10_isCell l g hg hc) (iW5 _ (List.mem_of_getElem? (i := 21) rfl)) rfl rfl (List.mem_of_getElem? (i := 4) rfl) (iW5 _ (List.mem_of_getElem? (i := 20) rfl)) (iW0 _ (List.mem_of_getElem? (i := 2) rfl)) hdX10_isCell (by decide) rfl rfl (Nat.le_of_ble_eq_true rfl) (dk dX7_cellTo_0 2 rfl) ?_
  refine k_if_ne (tgt := 11) C (dk dX7_cellTo_0 3 rfl) (by decide) h (fun h => ?_) (fun h => ?_)
  ·
    refine k_iload_n C (dk dX7_cellTo_0 6 rfl) rfl 1 rfl ?_
    by_cases e0 : a1 = (0 : Int32)
    · replace h := (if_pos e0).symm.trans h
      refine k_tsIn (q := (0 : Int32)) (tgt := 48) C (dk dX7_cellTo_0 7 rfl) (by decide) (by decide) rfl (by decide) e0 ?_
      refine k_iload_n C (dk dX7_cellTo_0 8 rfl) rfl 0 rfl ?_
      exact k_iret E (dk dX7_cellTo_0 9 rfl) h
    replace h := (if_neg e0).symm.trans h
    by_cases e1 : a1 = (1 : Int32)
    · replace h := (if_pos e1).symm.trans h
      refine k_tsIn (q := (1 : Int32)) (tgt := 50) C (dk dX7_cellTo_0 7 rfl) (by decide) (by decide) rfl (by decide) e1 ?_
      refine k_iload_n C (dk dX7_cellTo_0 10 rfl) rfl 0 rfl ?_
      refine k_bipush (v := (6 : Int32)) C (dk dX7_cellTo_0 11 rfl) (by decide) ?_
      refine k_icmp_lt (tgt := 63) C (dk dX7_cellTo_0 12 rfl) (by decide) h (fun h => ?_) (fun h => ?_)
      ·
        refine k_bipush (v := (-4 : Int32)) C (dk dX7_cellTo_0 17 rfl) (by decide) ?_
        exact k_iret E (dk dX7_cellTo_0 18 rfl) h
      ·
        refine k_iload_n C (dk dX7_cellTo_0 13 rfl) rfl 0 rfl ?_
        refine k_bipush (v := (6 : Int32)) C (dk dX7_cellTo_0 14 rfl) (by decide) ?_
        refine k_isub C (dk dX7_cellTo_0 15 rfl) ?_
        refine k_goto (tgt := 65) C (dk dX7_cellTo_0 16 rfl) (by decide) ?_
        exact k_iret E (dk dX7_cellTo_0 18 rfl) h
    replace h := (if_neg e1).symm.trans h
    by_cases e2 : a1 = (2 : Int32)
    · replace h := (if_pos e2).symm.trans h
      refine k_tsIn (q := (2 : Int32)) (tgt := 66) C (dk dX7_cellTo_0 7 rfl) (by decide) (by decide) rfl (by decide) e2 ?_
      refine k_iload_n C (dk dX7_cellTo_0 19 rfl) rfl 0 rfl ?_
      refine k_bipush (v := (6 : Int32)) C (dk dX7_cellTo_0 20 rfl) (by decide) ?_
      refine k_irem C (dk dX7_cellTo_0 21 rfl) (by decide) ?_
      refine k_if_le (tgt := 79) C (dk dX7_cellTo_0 22 rfl) (by decide) h (fun h => ?_) (fun h => ?_)
      ·
        refine k_bipush (v := (-4 : Int32)) C (dk dX7_cellTo_0 27 rfl) (by decide) ?_
        exact k_iret E (dk dX7_cellTo_0 28 rfl) h
      ·
        refine k_iload_n C (dk dX7_cellTo_0 23 rfl) rfl 0 rfl ?_
        refine k_iconst (v := (1 : Int32)) C (dk dX7_cellTo_0 24 rfl) (by decide) ?_
        refine k_isub C (dk dX7_cellTo_0 25 rfl) ?_
        refine k_goto (tgt := 81) C (dk dX7_cellTo_0 26 rfl) (by decide) ?_
        exact k_iret E (dk dX7_cellTo_0 28 rfl) h
    replace h := (if_neg e2).symm.trans h
    by_cases e3 : a1 = (3 : Int32)
    · replace h := (if_pos e3).symm.trans h
      refine k_tsIn (q := (3 : Int32)) (tgt := 82) C (dk dX7_cellTo_0 7 rfl) (by decide) (by decide) rfl (by decide) e3 ?_
      refine k_iload_n C (dk dX7_cellTo_0 29 rfl) rfl 0 rfl ?_
      refine k_bipush (v := (6 : Int32)) C (dk dX7_cellTo_0 30 rfl) (by decide) ?_
      refine k_irem C (dk dX7_cellTo_0 31 rfl) (by decide) ?_
      refine k_iconst (v := (5 : Int32)) C (dk dX7_cellTo_1 0 rfl) (by decide) ?_
      refine k_icmp_ge (tgt := 96) C (dk dX7_cellTo_1 1 rfl) (by decide) h (fun h => ?_) (fun h => ?_)
      ·
        refine k_bipush (v := (-4 : Int32)) C (dk dX7_cellTo_1 6 rfl) (by decide) ?_
        exact k_iret E (dk dX7_cellTo_1 7 rfl) h
      ·
        refine k_iload_n C (dk dX7_cellTo_1 2 rfl) rfl 0 rfl ?_
        refine k_iconst (v := (1 : Int32)) C (dk dX7_cellTo_1 3 rfl) (by decide) ?_
        refine k_iadd C (dk dX7_cellTo_1 4 rfl) ?_
        refine k_goto (tgt := 98) C (dk dX7_cellTo_1 5 rfl) (by decide) ?_
        exact k_iret E (dk dX7_cellTo_1 7 rfl) h
    replace h := (if_neg e3).symm.trans h
    by_cases e4 : a1 = (4 : Int32)
    · replace h := (if_pos e4).symm.trans h
      refine k_tsIn (q := (4 : Int32)) (tgt := 99) C (dk dX7_cellTo_0 7 rfl) (by decide) (by decide) rfl (by decide) e4 ?_
      refine k_iload_n C (dk dX7_cellTo_1 8 rfl) rfl 0 rfl ?_
      refine k_bipush (v := (30 : Int32)) C (dk dX7_cellTo_1 9 rfl) (by decide) ?_
      refine k_icmp_ge (tgt := 112) C (dk dX7_cellTo_1 10 rfl) (by decide) h (fun h => ?_) (fun h => ?_)
      ·
        refine k_bipush (v := (-4 : Int32)) C (dk dX7_cellTo_1 15 rfl) (by decide) ?_
        exact k_iret E (dk dX7_cellTo_1 16 rfl) h
      ·
        refine k_iload_n C (dk dX7_cellTo_1 11 rfl) rfl 0 rfl ?_
        refine k_bipush (v := (6 : Int32)) C (dk dX7_cellTo_1 12 rfl) (by decide) ?_
        refine k_iadd C (dk dX7_cellTo_1 13 rfl) ?_
        refine k_goto (tgt := 114) C (dk dX7_cellTo_1 14 rfl) (by decide) ?_
        exact k_iret E (dk dX7_cellTo_1 16 rfl) h
    replace h := (if_neg e4).symm.trans h
    refine k_tsOut (tgt := 115) C (dk dX7_cellTo_0 7 rfl) (by have n0 : a1.toInt ≠ 0 := fun q => e0 (Int32.toInt_inj.mp (q.trans (by decide))); have n1 : a1.toInt ≠ 1 := fun q => e1 (Int32.toInt_inj.mp (q.trans (by decide))); have n2 : a1.toInt ≠ 2 := fun q => e2 (Int32.toInt_inj.mp (q.trans (by decide))); have n3 : a1.toInt ≠ 3 := fun q => e3 (Int32.toInt_inj.mp (q.trans (by decide))); have n4 : a1.toInt ≠ 4 := fun q => e4 (Int32.toInt_inj.mp (q.trans (by decide))); omega) (by decide) ?_
    refine k_bipush (v := (-4 : Int32)) C (dk dX7_cellTo_1 17 rfl) (by decide) ?_
    exact k_iret E (dk dX7_cellTo_1 18 rfl) h
  ·
    refine k_bipush (v := (-4 : Int32)) C (dk dX7_cellTo_0 4 rfl) (by decide) ?_
    exact k_iret E (dk dX7_cellTo_0 5 rfl) h
set_option maxRecDepth 100000 in
set_option maxHeartbeats 4000000 in
theorem qX0_comeAround (l : Launch) (g : G) (hg : gOK g) {a1 : Int32}  {s0 σe : St} {v : Int64} (h : mX0_comeAround a1 s0 = some (v, σe)) : Mc l g yX0_comeAround cX0_comeAround 6 (some .long) { frames := 2, cells := 0, slots := 0, locals := 42 } [.ref (g.2.2 28), .int a1] s0 (some (.long v)) σe := by
  refine k_enter hg pnRX0 rfl (Nat.le_of_ble_eq_true rfl) ?_
  intro WK E
  have C := kX_y E
  unfold mX0_comeAround at h
  show WK 0 [(0, .ref (g.2.2 28)), (1, .int a1)] [] s0
  refine k_lconst (v := (0 : Int64)) C (dk dX0_comeAround_0 0 rfl) (by decide) ?_
  refine k_lstore_n (lv' := [(2, .long (0 : Int64)), (0, .ref (g.2.2 28)), (1, .int a1)]) C (dk dX0_comeAround_0 1 rfl) rfl (by decide) rfl ?_
  refine k_iconst (v := (0 : Int32)) C (dk dX0_comeAround_0 2 rfl) (by decide) ?_
  refine k_istore (lv' := [(4, .int (0 : Int32)), (2, .long (0 : Int64)), (0, .ref (g.2.2 28)), (1, .int a1)]) C (dk dX0_comeAround_0 3 rfl) (by decide) rfl ?_
  refine kl_L (P := (fun J5 => ∀ (y1 : Int64) (y2 : Int32) (s3 : St), J5 y1 y2 s3 = some (v, σe) → WK 5 [(0, .ref (g.2.2 28)), (1, .int a1), (2, .long y1), (4, .int y2)] [] s3)) h (fun _ _ _ h => nomatch h) (fun J5 hJ5 y1 y2 s3 h => ?_) (fun J5 hJ5 h => ?_)
  ·
    unfold mX0_comeAround_5 at h
    refine k_iload C (dk dX0_comeAround_0 4 rfl) 3 rfl ?_
    refine k_iconst (v := (5 : Int32)) C (dk dX0_comeAround_0 5 rfl) (by decide) ?_
    refine k_icmp_ge (tgt := 44) C (dk dX0_comeAround_0 6 rfl) (by decide) h (fun h => ?_) (fun h => ?_)
    ·
      refine k_lload_n C (dk dX0_comeAround_0 24 rfl) rfl 2 rfl ?_
      exact k_lret E (dk dX0_comeAround_0 25 rfl) h
    ·
      refine k_iload_n C (dk dX0_comeAround_0 7 rfl) rfl 1 rfl ?_
      refine k_iload C (dk dX0_comeAround_0 8 rfl) 3 rfl ?_
      refine cl2_k h (fun x5 s4 hc h => ?_)
      refine k_cs (As := [.int a1, .int y2]) (st := []) C (qX7_cellTo l g hg hc) (iW20 _ (List.mem_of_getElem? (i := 22) rfl)) (iW7 _ (List.mem_of_getElem? (i := 3) rfl)) (iW7 _ (List.mem_of_getElem? (i := 4) rfl)) (iW7 _ (List.mem_of_getElem? (i := 5) rfl)) rfl rfl hdX7_cellTo (by decide) rfl rfl (Nat.le_of_ble_eq_true rfl) (dk dX0_comeAround_0 9 rfl) ?_
      refine k_istore (lv' := [(5, .int x5), (0, .ref (g.2.2 28)), (1, .int a1), (2, .long y1), (4, .int y2)]) C (dk dX0_comeAround_0 10 rfl) (by decide) rfl ?_
      refine k_iload C (dk dX0_comeAround_0 11 rfl) 0 rfl ?_
      refine k_i2l C (dk dX0_comeAround_0 12 rfl) ?_
      refine cl2_k h (fun x7 s6 hc h => ?_)
      refine k_cn (As := [.long x5.toInt64]) (st := []) C (qX10_isCell l g hg hc) (iW5 _ (List.mem_of_getElem? (i := 21) rfl)) rfl rfl (List.mem_of_getElem? (i := 5) rfl) (iW5 _ (List.mem_of_getElem? (i := 20) rfl)) (iW0 _ (List.mem_of_getElem? (i := 2) rfl)) hdX10_isCell (by decide) rfl rfl (Nat.le_of_ble_eq_true rfl) (dk dX0_comeAround_0 13 rfl) ?_
      refine kl_J (P := (fun J38 => ∀ (y8 : Int64) (y9 : Int32) (s10 : St), J38 y8 y9 s10 = some (v, σe) → WK 38 [(0, .ref (g.2.2 28)), (1, .int a1), (2, .long y8), (4, .int y9)] [] s10)) h (fun y8 y9 s10 h => ?_) (fun J38 hJ38 h => ?_)
      ·
        unfold mX0_comeAround_38 at h
        refine k_iinc (lv' := [(4, .int (y9 + 1)), (0, .ref (g.2.2 28)), (1, .int a1), (2, .long y8)]) C (dk dX0_comeAround_0 22 rfl) (j := 3) rfl rfl (by decide) rfl ?_
        refine k_goto (tgt := 5) C (dk dX0_comeAround_0 23 rfl) (by decide) ?_
        refine k_sub C [1, 2, 3, 0] rfl ?_
        exact hJ5 _ _ _ h
      ·
        refine k_if_eq (tgt := 38) C (dk dX0_comeAround_0 14 rfl) (by decide) h (fun h => ?_) (fun h => ?_)
        ·
          refine k_sub C [1, 2, 3, 4] rfl ?_
          exact hJ38 _ _ _ h
        ·
          refine k_lload_n C (dk dX0_comeAround_0 15 rfl) rfl 3 rfl ?_
          refine k_aload_n C (dk dX0_comeAround_0 16 rfl) rfl 1 rfl ?_
          refine k_getR (q := 33) (D := RX0) (T := TX0) (N := 9) (ci := 0) (k := 4) C iCX0 rfl (by decide) rfl (by decide) (iW1 _ (List.mem_of_getElem? (i := 27) rfl)) rfl (dk dX0_comeAround_0 17 rfl) ?_
          refine k_iload C (dk dX0_comeAround_0 18 rfl) 0 rfl ?_
          refine k_lald C rfl rfl (dk dX0_comeAround_0 19 rfl) h (fun x11 h => ?_)
          refine k_lor C (dk dX0_comeAround_0 20 rfl) ?_
          refine nmL h (fun x12 h => ?_)
          refine k_lstore_n (lv' := [(2, .long x12), (5, .int x5), (0, .ref (g.2.2 28)), (1, .int a1), (4, .int y2)]) C (dk dX0_comeAround_0 21 rfl) rfl (by decide) rfl ?_
          refine k_sub C [2, 3, 0, 4] rfl ?_
          exact hJ38 _ _ _ h
  ·
    refine k_sub C [2, 3, 1, 0] rfl ?_
    exact hJ5 _ _ _ h
set_option maxRecDepth 100000 in
set_option maxHeartbeats 4000000 in
theorem qX7_spread (l : Launch) (g : G) (hg : gOK g) {a0 : Int64}  {s0 σe : St} {v : Int64} (h : mX7_spread a0 s0 = some (v, σe)) : Mc l g yX7_spread cX7_spread 4 (some .long) { frames := 0, cells := 0, slots := 0, locals := 0 } [.long a0] s0 (some (.long v)) σe := by
  refine k_enter hg pnRX7 rfl (Nat.le_of_ble_eq_true rfl) ?_
  intro WK E
  have C := kX_y E
  unfold mX7_spread at h
  show WK 0 [(0, .long a0)] [] s0
  refine k_lload_n C (dk dX7_spread_0 0 rfl) rfl 0 rfl ?_
  refine k_lload_n C (dk dX7_spread_0 1 rfl) rfl 0 rfl ?_
  refine k_ldc2 (v := (-1090785346 : Int64)) C (dk dX7_spread_0 2 rfl) (iW14 _ (List.mem_of_getElem? (i := 27) rfl)) ?_
  refine k_land C (dk dX7_spread_0 3 rfl) ?_
  refine k_iconst (v := (1 : Int32)) C (dk dX7_spread_0 4 rfl) (by decide) ?_
  refine k_lshr C (dk dX7_spread_0 5 rfl) ?_
  refine k_lor C (dk dX7_spread_0 6 rfl) ?_
  refine k_lload_n C (dk dX7_spread_0 7 rfl) rfl 0 rfl ?_
  refine k_ldc2 (v := (-34905131041 : Int64)) C (dk dX7_spread_0 8 rfl) (iW14 _ (List.mem_of_getElem? (i := 28) rfl)) ?_
  refine k_land C (dk dX7_spread_0 9 rfl) ?_
  refine k_iconst (v := (1 : Int32)) C (dk dX7_spread_0 10 rfl) (by decide) ?_
  refine k_lshl C (dk dX7_spread_0 11 rfl) ?_
  refine k_lor C (dk dX7_spread_0 12 rfl) ?_
  refine nmL h (fun x1 h => ?_)
  refine k_lstore_n (lv' := [(2, .long x1), (0, .long a0)]) C (dk dX7_spread_0 13 rfl) rfl (by decide) rfl ?_
  refine k_lload_n C (dk dX7_spread_0 14 rfl) rfl 0 rfl ?_
  refine k_lload_n C (dk dX7_spread_0 15 rfl) rfl 1 rfl ?_
  refine k_bipush (v := (6 : Int32)) C (dk dX7_spread_0 16 rfl) (by decide) ?_
  refine k_lshr C (dk dX7_spread_0 17 rfl) ?_
  refine k_lor C (dk dX7_spread_0 18 rfl) ?_
  refine k_lload_n C (dk dX7_spread_0 19 rfl) rfl 1 rfl ?_
  refine k_bipush (v := (6 : Int32)) C (dk dX7_spread_0 20 rfl) (by decide) ?_
  refine k_lshl C (dk dX7_spread_0 21 rfl) ?_
  refine k_lor C (dk dX7_spread_0 22 rfl) ?_
  refine k_ldc2 (v := (68719476735 : Int64)) C (dk dX7_spread_0 23 rfl) (iW14 _ (List.mem_of_getElem? (i := 29) rfl)) ?_
  refine k_land C (dk dX7_spread_0 24 rfl) ?_
  exact k_lret E (dk dX7_spread_0 25 rfl) h
set_option maxRecDepth 100000 in
set_option maxHeartbeats 4000000 in
theorem qX0_mark (l : Launch) (g : G) (hg : gOK g) {a1 : Int32} {a2 : Int64} {a4 : Int32}  {s0 σe : St} (h : mX0_mark a1 a2 a4 s0 = some σe) : Mc l g yX0_mark cX0_mark 6 none { frames := 2, cells := 0, slots := 0, locals := 42 } [.ref (g.2.2 28), .int a1, .long a2, .int a4] s0 none σe := by
  refine k_enter hg pnRX0 rfl (Nat.le_of_ble_eq_true rfl) ?_
  intro WK E
  have C := kX_y E
  unfold mX0_mark at h
  show WK 0 [(0, .ref (g.2.2 28)), (1, .int a1), (2, .long a2), (4, .int a4)] [] s0
  refine k_iconst (v := (0 : Int32)) C (dk dX0_mark_0 0 rfl) (by decide) ?_
  refine k_istore (lv' := [(5, .int (0 : Int32)), (0, .ref (g.2.2 28)), (1, .int a1), (2, .long a2), (4, .int a4)]) C (dk dX0_mark_0 1 rfl) (by decide) rfl ?_
  refine kl_L (P := (fun J3 => ∀ (y1 : Int32) (s2 : St), J3 y1 s2 = some σe → WK 3 [(0, .ref (g.2.2 28)), (1, .int a1), (2, .long a2), (4, .int a4), (5, .int y1)] [] s2)) h (fun _ _ h => nomatch h) (fun J3 hJ3 y1 s2 h => ?_) (fun J3 hJ3 h => ?_)
  ·
    unfold mX0_mark_3 at h
    refine k_iload C (dk dX0_mark_0 2 rfl) 4 rfl ?_
    refine k_bipush (v := (36 : Int32)) C (dk dX0_mark_0 3 rfl) (by decide) ?_
    refine k_icmp_ge (tgt := 47) C (dk dX0_mark_0 4 rfl) (by decide) h (fun h => ?_) (fun h => ?_)
    ·
      exact k_vret E (dk dX0_mark_0 24 rfl) h
    ·
      refine k_iload_n C (dk dX0_mark_0 5 rfl) rfl 1 rfl ?_
      refine k_i2l C (dk dX0_mark_0 6 rfl) ?_
      refine cl2_k h (fun x4 s3 hc h => ?_)
      refine k_cn (As := [.long a1.toInt64]) (st := []) C (qX10_isCell l g hg hc) (iW5 _ (List.mem_of_getElem? (i := 21) rfl)) rfl rfl (List.mem_of_getElem? (i := 5) rfl) (iW5 _ (List.mem_of_getElem? (i := 20) rfl)) (iW0 _ (List.mem_of_getElem? (i := 2) rfl)) hdX10_isCell (by decide) rfl rfl (Nat.le_of_ble_eq_true rfl) (dk dX0_mark_0 7 rfl) ?_
      refine kl_J (P := (fun J41 => ∀ (y5 : Int32) (s6 : St), J41 y5 s6 = some σe → WK 41 [(0, .ref (g.2.2 28)), (1, .int a1), (2, .long a2), (4, .int a4), (5, .int y5)] [] s6)) h (fun y5 s6 h => ?_) (fun J41 hJ41 h => ?_)
      ·
        unfold mX0_mark_41 at h
        refine k_iinc (lv' := [(5, .int (y5 + 1)), (0, .ref (g.2.2 28)), (1, .int a1), (2, .long a2), (4, .int a4)]) C (dk dX0_mark_0 22 rfl) (j := 4) rfl rfl (by decide) rfl ?_
        refine k_goto (tgt := 3) C (dk dX0_mark_0 23 rfl) (by decide) ?_
        refine k_sub C [1, 2, 3, 4, 0] rfl ?_
        exact hJ3 _ _ h
      ·
        refine k_if_eq (tgt := 41) C (dk dX0_mark_0 8 rfl) (by decide) h (fun h => ?_) (fun h => ?_)
        ·
          exact hJ41 _ _ h
        ·
          refine k_lload_n C (dk dX0_mark_0 9 rfl) rfl 2 rfl ?_
          refine k_iload C (dk dX0_mark_0 10 rfl) 4 rfl ?_
          refine cl2_k h (fun x8 s7 hc h => ?_)
          refine k_cs (As := [.long a2, .int y1]) (st := []) C (qX7_has l g hg hc) (iW16 _ (List.mem_of_getElem? (i := 11) rfl)) (iW14 _ (List.mem_of_getElem? (i := 22) rfl)) (iW7 _ (List.mem_of_getElem? (i := 4) rfl)) (iW14 _ (List.mem_of_getElem? (i := 23) rfl)) rfl rfl hdX7_has (by decide) rfl rfl (Nat.le_of_ble_eq_true rfl) (dk dX0_mark_0 11 rfl) ?_
          refine k_if_eq (tgt := 41) C (dk dX0_mark_0 12 rfl) (by decide) h (fun h => ?_) (fun h => ?_)
          ·
            exact hJ41 _ _ h
          ·
            refine k_aload_n C (dk dX0_mark_0 13 rfl) rfl 0 rfl ?_
            refine k_getR (q := 35) (D := RX0) (T := TX0) (N := 9) (ci := 0) (k := 6) C iCX0 rfl (by decide) rfl (by decide) (iW1 _ (List.mem_of_getElem? (i := 29) rfl)) rfl (dk dX0_mark_0 14 rfl) ?_
            refine k_iload_n C (dk dX0_mark_0 15 rfl) rfl 1 rfl ?_
            refine k_bipush (v := (36 : Int32)) C (dk dX0_mark_0 16 rfl) (by decide) ?_
            refine k_imul C (dk dX0_mark_0 17 rfl) ?_
            refine k_iload C (dk dX0_mark_0 18 rfl) 4 rfl ?_
            refine k_iadd C (dk dX0_mark_0 19 rfl) ?_
            refine k_iload C (dk dX0_mark_0 20 rfl) 3 rfl ?_
            refine k_iast C rfl rfl (dk dX0_mark_0 21 rfl) h (fun s9 h => ?_)
            exact hJ41 _ _ h
  ·
    refine k_sub C [1, 2, 3, 4, 0] rfl ?_
    exact hJ3 _ _ h
set_option maxRecDepth 100000 in
set_option maxHeartbeats 4000000 in
theorem qX0_spreadOn (l : Launch) (g : G) (hg : gOK g) {a1 : Int32}  {s0 σe : St} {v : Int32} (h : mX0_spreadOn a1 s0 = some (v, σe)) : Mc l g yX0_spreadOn cX0_spreadOn 4 (some .boolean) { frames := 3, cells := 0, slots := 0, locals := 67 } [.ref (g.2.2 28), .int a1] s0 (some (.int v)) σe := by
  refine k_enter hg pnRX0 rfl (Nat.le_of_ble_eq_true rfl) ?_
  intro WK E
  have C := kX_y E
  unfold mX0_spreadOn at h
  show WK 0 [(0, .ref (g.2.2 28)), (1, .int a1)] [] s0
  refine k_iconst (v := (0 : Int32)) C (dk dX0_spreadOn_0 0 rfl) (by decide) ?_
  refine k_istore_n (lv' := [(2, .int (0 : Int32)), (0, .ref (g.2.2 28)), (1, .int a1)]) C (dk dX0_spreadOn_0 1 rfl) rfl (by decide) rfl ?_
  refine kl_L (P := (fun J2 => ∀ (y1 : Int32) (s2 : St), J2 y1 s2 = some (v, σe) → WK 2 [(0, .ref (g.2.2 28)), (1, .int a1), (2, .int y1)] [] s2)) h (fun _ _ h => nomatch h) (fun J2 hJ2 y1 s2 h => ?_) (fun J2 hJ2 h => ?_)
  ·
    unfold mX0_spreadOn_2 at h
    refine k_iload_n C (dk dX0_spreadOn_0 2 rfl) rfl 2 rfl ?_
    refine k_bipush (v := (36 : Int32)) C (dk dX0_spreadOn_0 3 rfl) (by decide) ?_
    refine k_icmp_ge (tgt := 61) C (dk dX0_spreadOn_0 4 rfl) (by decide) h (fun h => ?_) (fun h => ?_)
    ·
      refine k_iconst (v := (0 : Int32)) C (dk dX0_spreadOn_1 4 rfl) (by decide) ?_
      refine k_istore_n (lv' := [(2, .int (0 : Int32)), (0, .ref (g.2.2 28)), (1, .int a1)]) C (dk dX0_spreadOn_1 5 rfl) rfl (by decide) rfl ?_
      refine k_iconst (v := (0 : Int32)) C (dk dX0_spreadOn_1 6 rfl) (by decide) ?_
      refine k_istore_n (lv' := [(3, .int (0 : Int32)), (2, .int (0 : Int32)), (0, .ref (g.2.2 28)), (1, .int a1)]) C (dk dX0_spreadOn_1 7 rfl) rfl (by decide) rfl ?_
      refine kl_L (P := (fun J65 => ∀ (y3 : Int32) (y4 : Int32) (s5 : St), J65 y3 y4 s5 = some (v, σe) → WK 65 [(0, .ref (g.2.2 28)), (1, .int a1), (2, .int y3), (3, .int y4)] [] s5)) h (fun _ _ _ h => nomatch h) (fun J65 hJ65 y3 y4 s5 h => ?_) (fun J65 hJ65 h => ?_)
      ·
        unfold mX0_spreadOn_65 at h
        refine k_iload_n C (dk dX0_spreadOn_1 8 rfl) rfl 3 rfl ?_
        refine k_bipush (v := (36 : Int32)) C (dk dX0_spreadOn_1 9 rfl) (by decide) ?_
        refine k_icmp_ge (tgt := 117) C (dk dX0_spreadOn_1 10 rfl) (by decide) h (fun h => ?_) (fun h => ?_)
        ·
          refine k_iload_n C (dk dX0_spreadOn_2 9 rfl) rfl 2 rfl ?_
          exact k_zret E (dk dX0_spreadOn_2 10 rfl) h
        ·
          refine k_aload_n C (dk dX0_spreadOn_1 11 rfl) rfl 0 rfl ?_
          refine k_getR (q := 34) (D := RX0) (T := TX0) (N := 9) (ci := 0) (k := 5) C iCX0 rfl (by decide) rfl (by decide) (iW1 _ (List.mem_of_getElem? (i := 28) rfl)) rfl (dk dX0_spreadOn_1 12 rfl) ?_
          refine k_iload_n C (dk dX0_spreadOn_1 13 rfl) rfl 3 rfl ?_
          refine k_lald C rfl rfl (dk dX0_spreadOn_1 14 rfl) h (fun x6 h => ?_)
          refine k_lconst (v := (0 : Int64)) C (dk dX0_spreadOn_1 15 rfl) (by decide) ?_
          refine k_lcmp C (dk dX0_spreadOn_1 16 rfl) ?_
          refine kl_J (P := (fun J111 => ∀ (y7 : Int32) (y8 : Int32) (s9 : St), J111 y7 y8 s9 = some (v, σe) → WK 111 [(0, .ref (g.2.2 28)), (1, .int a1), (2, .int y7), (3, .int y8)] [] s9)) h (fun y7 y8 s9 h => ?_) (fun J111 hJ111 h => ?_)
          ·
            unfold mX0_spreadOn_111 at h
            refine k_iinc (lv' := [(3, .int (y8 + 1)), (0, .ref (g.2.2 28)), (1, .int a1), (2, .int y7)]) C (dk dX0_spreadOn_2 7 rfl) (j := 3) rfl rfl (by decide) rfl ?_
            refine k_goto (tgt := 65) C (dk dX0_spreadOn_2 8 rfl) (by decide) ?_
            refine k_sub C [1, 2, 3, 0] rfl ?_
            exact hJ65 _ _ _ h
          ·
            refine k_if_eq (tgt := 111) C (dk dX0_spreadOn_1 17 rfl) (by decide) h (fun h => ?_) (fun h => ?_)
            ·
              exact hJ111 _ _ _ h
            ·
              refine k_iconst (v := (1 : Int32)) C (dk dX0_spreadOn_1 18 rfl) (by decide) ?_
              refine k_istore_n (lv' := [(2, .int (1 : Int32)), (0, .ref (g.2.2 28)), (1, .int a1), (3, .int y4)]) C (dk dX0_spreadOn_1 19 rfl) rfl (by decide) rfl ?_
              refine k_aload_n C (dk dX0_spreadOn_1 20 rfl) rfl 1 rfl ?_
              refine k_getR (q := 33) (D := RX0) (T := TX0) (N := 9) (ci := 0) (k := 4) C iCX0 rfl (by decide) rfl (by decide) (iW1 _ (List.mem_of_getElem? (i := 27) rfl)) rfl (dk dX0_spreadOn_1 21 rfl) ?_
              refine k_iload_n C (dk dX0_spreadOn_1 22 rfl) rfl 3 rfl ?_
              refine k_dup2 C (dk dX0_spreadOn_1 23 rfl) rfl rfl ?_
              refine k_lald C rfl rfl (dk dX0_spreadOn_1 24 rfl) h (fun x10 h => ?_)
              refine k_aload_n C (dk dX0_spreadOn_1 25 rfl) rfl 1 rfl ?_
              refine k_getR (q := 34) (D := RX0) (T := TX0) (N := 9) (ci := 0) (k := 5) C iCX0 rfl (by decide) rfl (by decide) (iW1 _ (List.mem_of_getElem? (i := 28) rfl)) rfl (dk dX0_spreadOn_1 26 rfl) ?_
              refine k_iload_n C (dk dX0_spreadOn_1 27 rfl) rfl 3 rfl ?_
              refine k_lald C rfl rfl (dk dX0_spreadOn_1 28 rfl) h (fun x11 h => ?_)
              refine k_lor C (dk dX0_spreadOn_1 29 rfl) ?_
              refine k_last C rfl rfl (dk dX0_spreadOn_1 30 rfl) h (fun s12 h => ?_)
              refine k_aload_n C (dk dX0_spreadOn_1 31 rfl) rfl 1 rfl ?_
              refine k_iload_n C (dk dX0_spreadOn_2 0 rfl) rfl 3 rfl ?_
              refine k_aload_n C (dk dX0_spreadOn_2 1 rfl) rfl 1 rfl ?_
              refine k_getR (q := 34) (D := RX0) (T := TX0) (N := 9) (ci := 0) (k := 5) C iCX0 rfl (by decide) rfl (by decide) (iW1 _ (List.mem_of_getElem? (i := 28) rfl)) rfl (dk dX0_spreadOn_2 2 rfl) ?_
              refine k_iload_n C (dk dX0_spreadOn_2 3 rfl) rfl 3 rfl ?_
              refine k_lald C rfl rfl (dk dX0_spreadOn_2 4 rfl) h (fun x13 h => ?_)
              refine k_iload_n C (dk dX0_spreadOn_2 5 rfl) rfl 2 rfl ?_
              refine cl1_k h (fun s14 hc h => ?_)
              refine k_cv (T := TX0) (N := 9) (ci := 0) (ob := 28) (As := [.int y4, .long x13, .int a1]) (st := []) C (qX0_mark l g hg hc) (iW20 _ (List.mem_of_getElem? (i := 24) rfl)) (iW20 _ (List.mem_of_getElem? (i := 25) rfl)) (iW20 _ (List.mem_of_getElem? (i := 26) rfl)) (iW0 _ (List.mem_of_getElem? (i := 21) rfl)) (iW20 _ (List.mem_of_getElem? (i := 27) rfl)) rfl rfl hdX0_mark (by decide) rfl (by decide) rfl rfl rfl (Nat.le_of_ble_eq_true rfl) (dk dX0_spreadOn_2 6 rfl) ?_
              refine k_sub C [1, 2, 0, 3] rfl ?_
              exact hJ111 _ _ _ h
      ·
        refine k_sub C [2, 3, 1, 0] rfl ?_
        exact hJ65 _ _ _ h
    ·
      refine k_aload_n C (dk dX0_spreadOn_0 5 rfl) rfl 0 rfl ?_
      refine k_getR (q := 34) (D := RX0) (T := TX0) (N := 9) (ci := 0) (k := 5) C iCX0 rfl (by decide) rfl (by decide) (iW1 _ (List.mem_of_getElem? (i := 28) rfl)) rfl (dk dX0_spreadOn_0 6 rfl) ?_
      refine k_iload_n C (dk dX0_spreadOn_0 7 rfl) rfl 2 rfl ?_
      refine k_aload_n C (dk dX0_spreadOn_0 8 rfl) rfl 0 rfl ?_
      refine k_getR (q := 32) (D := RX0) (T := TX0) (N := 9) (ci := 0) (k := 3) C iCX0 rfl (by decide) rfl (by decide) (iW1 _ (List.mem_of_getElem? (i := 26) rfl)) rfl (dk dX0_spreadOn_0 9 rfl) ?_
      refine k_iload_n C (dk dX0_spreadOn_0 10 rfl) rfl 2 rfl ?_
      refine k_lald C rfl rfl (dk dX0_spreadOn_0 11 rfl) h (fun x15 h => ?_)
      refine k_lconst (v := (0 : Int64)) C (dk dX0_spreadOn_0 12 rfl) (by decide) ?_
      refine k_lcmp C (dk dX0_spreadOn_0 13 rfl) ?_
      refine kl_J (P := (fun J54 => ∀ (y16 : Int64) (s17 : St), J54 y16 s17 = some (v, σe) → WK 54 [(0, .ref (g.2.2 28)), (1, .int a1), (2, .int y1)] [.long y16, .int y1, .ref (g.2.2 34)] s17)) h (fun y16 s17 h => ?_) (fun J54 hJ54 h => ?_)
      ·
        unfold mX0_spreadOn_54 at h
        refine k_last C rfl rfl (dk dX0_spreadOn_1 1 rfl) h (fun s18 h => ?_)
        refine k_iinc (lv' := [(2, .int (y1 + 1)), (0, .ref (g.2.2 28)), (1, .int a1)]) C (dk dX0_spreadOn_1 2 rfl) (j := 2) rfl rfl (by decide) rfl ?_
        refine k_goto (tgt := 2) C (dk dX0_spreadOn_1 3 rfl) (by decide) ?_
        refine k_sub C [1, 2, 0] rfl ?_
        exact hJ2 _ _ h
      ·
        refine k_if_ne (tgt := 28) C (dk dX0_spreadOn_0 14 rfl) (by decide) h (fun h => ?_) (fun h => ?_)
        ·
          refine k_aload_n C (dk dX0_spreadOn_0 17 rfl) rfl 0 rfl ?_
          refine k_iload_n C (dk dX0_spreadOn_0 18 rfl) rfl 2 rfl ?_
          refine cl2_k h (fun x20 s19 hc h => ?_)
          refine k_cv (T := TX0) (N := 9) (ci := 0) (ob := 28) (As := [.int y1]) (st := [.int y1, .ref (g.2.2 34)]) C (qX0_comeAround l g hg hc) (iW20 _ (List.mem_of_getElem? (i := 18) rfl)) (iW20 _ (List.mem_of_getElem? (i := 19) rfl)) (iW20 _ (List.mem_of_getElem? (i := 20) rfl)) (iW0 _ (List.mem_of_getElem? (i := 21) rfl)) (iW20 _ (List.mem_of_getElem? (i := 21) rfl)) rfl rfl hdX0_comeAround (by decide) rfl (by decide) rfl rfl rfl (Nat.le_of_ble_eq_true rfl) (dk dX0_spreadOn_0 19 rfl) ?_
          refine cl2_k h (fun x22 s21 hc h => ?_)
          refine k_cs (As := [.long x20]) (st := [.int y1, .ref (g.2.2 34)]) C (qX7_spread l g hg hc) (iW20 _ (List.mem_of_getElem? (i := 23) rfl)) (iW14 _ (List.mem_of_getElem? (i := 25) rfl)) (iW7 _ (List.mem_of_getElem? (i := 4) rfl)) (iW14 _ (List.mem_of_getElem? (i := 26) rfl)) rfl rfl hdX7_spread (by decide) rfl rfl (Nat.le_of_ble_eq_true rfl) (dk dX0_spreadOn_0 20 rfl) ?_
          refine k_aload_n C (dk dX0_spreadOn_0 21 rfl) rfl 0 rfl ?_
          refine k_getR (q := 32) (D := RX0) (T := TX0) (N := 9) (ci := 0) (k := 3) C iCX0 rfl (by decide) rfl (by decide) (iW1 _ (List.mem_of_getElem? (i := 26) rfl)) rfl (dk dX0_spreadOn_0 22 rfl) ?_
          refine k_iload_n C (dk dX0_spreadOn_0 23 rfl) rfl 2 rfl ?_
          refine k_lald C rfl rfl (dk dX0_spreadOn_0 24 rfl) h (fun x23 h => ?_)
          refine k_land C (dk dX0_spreadOn_0 25 rfl) ?_
          refine k_aload_n C (dk dX0_spreadOn_0 26 rfl) rfl 0 rfl ?_
          refine k_getR (q := 33) (D := RX0) (T := TX0) (N := 9) (ci := 0) (k := 4) C iCX0 rfl (by decide) rfl (by decide) (iW1 _ (List.mem_of_getElem? (i := 27) rfl)) rfl (dk dX0_spreadOn_0 27 rfl) ?_
          refine k_iload_n C (dk dX0_spreadOn_0 28 rfl) rfl 2 rfl ?_
          refine k_lald C rfl rfl (dk dX0_spreadOn_0 29 rfl) h (fun x24 h => ?_)
          refine k_ldc2 (v := (-1 : Int64)) C (dk dX0_spreadOn_0 30 rfl) (iW20 _ (List.mem_of_getElem? (i := 17) rfl)) ?_
          refine k_lxor C (dk dX0_spreadOn_0 31 rfl) ?_
          refine k_land C (dk dX0_spreadOn_1 0 rfl) ?_
          exact hJ54 _ _ h
        ·
          refine k_lconst (v := (0 : Int64)) C (dk dX0_spreadOn_0 15 rfl) (by decide) ?_
          refine k_goto (tgt := 54) C (dk dX0_spreadOn_0 16 rfl) (by decide) ?_
          exact hJ54 _ _ h
  ·
    refine k_sub C [1, 2, 0] rfl ?_
    exact hJ2 _ _ h
set_option maxRecDepth 100000 in
set_option maxHeartbeats 4000000 in
theorem qX0_daysBetween (l : Launch) (g : G) (hg : gOK g) {a1 : Int32} {a2 : Int32} {a3 : Int32} {a4 : Int32}  {s0 σe : St} {v : Int32} (h : mX0_daysBetween a1 a2 a3 a4 s0 = some (v, σe)) : Mc l g yX0_daysBetween cX0_daysBetween 6 (some .int) { frames := 4, cells := 0, slots := 0, locals := 90 } [.ref (g.2.2 28), .int a1, .int a2, .int a3, .int a4] s0 (some (.int v)) σe := by
  refine k_enter hg pnRX0 rfl (Nat.le_of_ble_eq_true rfl) ?_
  intro WK E
  have C := kX_y E
  unfold mX0_daysBetween at h
  show WK 0 [(0, .ref (g.2.2 28)), (1, .int a1), (2, .int a2), (3, .int a3), (4, .int a4)] [] s0
  refine k_aload_n C (dk dX0_daysBetween_0 0 rfl) rfl 0 rfl ?_
  refine k_iload_n C (dk dX0_daysBetween_0 1 rfl) rfl 1 rfl ?_
  refine k_iload_n C (dk dX0_daysBetween_0 2 rfl) rfl 2 rfl ?_
  refine cl2_k h (fun x2 s1 hc h => ?_)
  refine k_cv (T := TX0) (N := 9) (ci := 0) (ob := 28) (As := [.int a1, .int a2]) (st := []) C (qX0_isPair l g hg hc) (iW19 _ (List.mem_of_getElem? (i := 27) rfl)) (iW19 _ (List.mem_of_getElem? (i := 28) rfl)) (iW19 _ (List.mem_of_getElem? (i := 29) rfl)) (iW0 _ (List.mem_of_getElem? (i := 21) rfl)) (iW20 _ (List.mem_of_getElem? (i := 0) rfl)) rfl rfl hdX0_isPair (by decide) rfl (by decide) rfl rfl rfl (Nat.le_of_ble_eq_true rfl) (dk dX0_daysBetween_0 3 rfl) ?_
  refine k_if_eq (tgt := 19) C (dk dX0_daysBetween_0 4 rfl) (by decide) h (fun h => ?_) (fun h => ?_)
  ·
    refine k_bipush (v := (-4 : Int32)) C (dk dX0_daysBetween_0 10 rfl) (by decide) ?_
    exact k_iret E (dk dX0_daysBetween_0 11 rfl) h
  ·
    refine k_aload_n C (dk dX0_daysBetween_0 5 rfl) rfl 0 rfl ?_
    refine k_iload_n C (dk dX0_daysBetween_0 6 rfl) rfl 3 rfl ?_
    refine k_iload C (dk dX0_daysBetween_0 7 rfl) 4 rfl ?_
    refine cl2_k h (fun x4 s3 hc h => ?_)
    refine k_cv (T := TX0) (N := 9) (ci := 0) (ob := 28) (As := [.int a3, .int a4]) (st := []) C (qX0_isPair l g hg hc) (iW19 _ (List.mem_of_getElem? (i := 27) rfl)) (iW19 _ (List.mem_of_getElem? (i := 28) rfl)) (iW19 _ (List.mem_of_getElem? (i := 29) rfl)) (iW0 _ (List.mem_of_getElem? (i := 21) rfl)) (iW20 _ (List.mem_of_getElem? (i := 0) rfl)) rfl rfl hdX0_isPair (by decide) rfl (by decide) rfl rfl rfl (Nat.le_of_ble_eq_true rfl) (dk dX0_daysBetween_0 8 rfl) ?_
    refine k_if_ne (tgt := 22) C (dk dX0_daysBetween_0 9 rfl) (by decide) h (fun h => ?_) (fun h => ?_)
    ·
      refine k_aload_n C (dk dX0_daysBetween_0 12 rfl) rfl 0 rfl ?_
      refine k_iload_n C (dk dX0_daysBetween_0 13 rfl) rfl 3 rfl ?_
      refine k_iload C (dk dX0_daysBetween_0 14 rfl) 4 rfl ?_
      refine cl1_k h (fun s5 hc h => ?_)
      refine k_cv (T := TX0) (N := 9) (ci := 0) (ob := 28) (As := [.int a3, .int a4]) (st := []) C (qX0_start l g hg hc) (iW20 _ (List.mem_of_getElem? (i := 1) rfl)) (iW20 _ (List.mem_of_getElem? (i := 2) rfl)) (iW20 _ (List.mem_of_getElem? (i := 3) rfl)) (iW0 _ (List.mem_of_getElem? (i := 21) rfl)) (iW20 _ (List.mem_of_getElem? (i := 4) rfl)) rfl rfl hdX0_start (by decide) rfl (by decide) rfl rfl rfl (Nat.le_of_ble_eq_true rfl) (dk dX0_daysBetween_0 15 rfl) ?_
      refine k_iconst (v := (0 : Int32)) C (dk dX0_daysBetween_0 16 rfl) (by decide) ?_
      refine k_istore (lv' := [(5, .int (0 : Int32)), (0, .ref (g.2.2 28)), (1, .int a1), (2, .int a2), (3, .int a3), (4, .int a4)]) C (dk dX0_daysBetween_0 17 rfl) (by decide) rfl ?_
      refine kl_L (P := (fun J32 => ∀ (y6 : Int32) (s7 : St), J32 y6 s7 = some (v, σe) → WK 32 [(0, .ref (g.2.2 28)), (1, .int a1), (2, .int a2), (5, .int y6)] [] s7)) h (fun _ _ h => nomatch h) (fun J32 hJ32 y6 s7 h => ?_) (fun J32 hJ32 h => ?_)
      ·
        unfold mX0_daysBetween_32 at h
        refine k_iload C (dk dX0_daysBetween_0 18 rfl) 3 rfl ?_
        refine k_sipush (v := (1296 : Int32)) C (dk dX0_daysBetween_0 19 rfl) (by decide) ?_
        refine k_icmp_ge (tgt := 76) C (dk dX0_daysBetween_0 20 rfl) (by decide) h (fun h => ?_) (fun h => ?_)
        ·
          refine k_bipush (v := (-4 : Int32)) C (dk dX0_daysBetween_1 8 rfl) (by decide) ?_
          exact k_iret E (dk dX0_daysBetween_1 9 rfl) h
        ·
          refine k_aload_n C (dk dX0_daysBetween_0 21 rfl) rfl 0 rfl ?_
          refine k_getR (q := 33) (D := RX0) (T := TX0) (N := 9) (ci := 0) (k := 4) C iCX0 rfl (by decide) rfl (by decide) (iW1 _ (List.mem_of_getElem? (i := 27) rfl)) rfl (dk dX0_daysBetween_0 22 rfl) ?_
          refine k_iload_n C (dk dX0_daysBetween_0 23 rfl) rfl 1 rfl ?_
          refine k_lald C rfl rfl (dk dX0_daysBetween_0 24 rfl) h (fun x8 h => ?_)
          refine k_iload_n C (dk dX0_daysBetween_0 25 rfl) rfl 2 rfl ?_
          refine cl2_k h (fun x10 s9 hc h => ?_)
          refine k_cs (As := [.long x8, .int a2]) (st := []) C (qX7_has l g hg hc) (iW16 _ (List.mem_of_getElem? (i := 11) rfl)) (iW14 _ (List.mem_of_getElem? (i := 22) rfl)) (iW7 _ (List.mem_of_getElem? (i := 4) rfl)) (iW14 _ (List.mem_of_getElem? (i := 23) rfl)) rfl rfl hdX7_has (by decide) rfl rfl (Nat.le_of_ble_eq_true rfl) (dk dX0_daysBetween_0 26 rfl) ?_
          refine k_if_eq (tgt := 56) C (dk dX0_daysBetween_0 27 rfl) (by decide) h (fun h => ?_) (fun h => ?_)
          ·
            refine k_aload_n C (dk dX0_daysBetween_0 30 rfl) rfl 0 rfl ?_
            refine k_iload C (dk dX0_daysBetween_0 31 rfl) 3 rfl ?_
            refine k_iconst (v := (1 : Int32)) C (dk dX0_daysBetween_1 0 rfl) (by decide) ?_
            refine k_iadd C (dk dX0_daysBetween_1 1 rfl) ?_
            refine cl2_k h (fun x12 s11 hc h => ?_)
            refine k_cv (T := TX0) (N := 9) (ci := 0) (ob := 28) (As := [.int (y6 + (1 : Int32))]) (st := []) C (qX0_spreadOn l g hg hc) (iW20 _ (List.mem_of_getElem? (i := 13) rfl)) (iW20 _ (List.mem_of_getElem? (i := 14) rfl)) (iW20 _ (List.mem_of_getElem? (i := 15) rfl)) (iW0 _ (List.mem_of_getElem? (i := 21) rfl)) (iW20 _ (List.mem_of_getElem? (i := 16) rfl)) rfl rfl hdX0_spreadOn (by decide) rfl (by decide) rfl rfl rfl (Nat.le_of_ble_eq_true rfl) (dk dX0_daysBetween_1 2 rfl) ?_
            refine k_if_ne (tgt := 70) C (dk dX0_daysBetween_1 3 rfl) (by decide) h (fun h => ?_) (fun h => ?_)
            ·
              refine k_iinc (lv' := [(5, .int (y6 + 1)), (0, .ref (g.2.2 28)), (1, .int a1), (2, .int a2)]) C (dk dX0_daysBetween_1 6 rfl) (j := 3) rfl rfl (by decide) rfl ?_
              refine k_goto (tgt := 32) C (dk dX0_daysBetween_1 7 rfl) (by decide) ?_
              refine k_sub C [1, 2, 3, 0] rfl ?_
              exact hJ32 _ _ h
            ·
              refine k_bipush (v := (-4 : Int32)) C (dk dX0_daysBetween_1 4 rfl) (by decide) ?_
              exact k_iret E (dk dX0_daysBetween_1 5 rfl) h
          ·
            refine k_iload C (dk dX0_daysBetween_0 28 rfl) 3 rfl ?_
            exact k_iret E (dk dX0_daysBetween_0 29 rfl) h
      ·
        refine k_sub C [1, 2, 3, 0] rfl ?_
        exact hJ32 _ _ h
    ·
      refine k_bipush (v := (-4 : Int32)) C (dk dX0_daysBetween_0 10 rfl) (by decide) ?_
      exact k_iret E (dk dX0_daysBetween_0 11 rfl) h
set_option maxRecDepth 100000 in
set_option maxHeartbeats 4000000 in
theorem qX0_daysLeft (l : Launch) (g : G) (hg : gOK g) {a1 : Int32} {a2 : Int32}  {s0 σe : St} {v : Int32} (h : mX0_daysLeft a1 a2 s0 = some (v, σe)) : Mc l g yX0_daysLeft cX0_daysLeft 3 (some .int) { frames := 1, cells := 0, slots := 0, locals := 21 } [.ref (g.2.2 28), .int a1, .int a2] s0 (some (.int v)) σe := by
  refine k_enter hg pnRX0 rfl (Nat.le_of_ble_eq_true rfl) ?_
  intro WK E
  have C := kX_y E
  unfold mX0_daysLeft at h
  show WK 0 [(0, .ref (g.2.2 28)), (1, .int a1), (2, .int a2)] [] s0
  refine k_iload_n C (dk dX0_daysLeft_0 0 rfl) rfl 1 rfl ?_
  refine k_i2l C (dk dX0_daysLeft_0 1 rfl) ?_
  refine cl2_k h (fun x2 s1 hc h => ?_)
  refine k_cn (As := [.long a1.toInt64]) (st := []) C (qX10_isCell l g hg hc) (iW5 _ (List.mem_of_getElem? (i := 21) rfl)) rfl rfl (List.mem_of_getElem? (i := 5) rfl) (iW5 _ (List.mem_of_getElem? (i := 20) rfl)) (iW0 _ (List.mem_of_getElem? (i := 2) rfl)) hdX10_isCell (by decide) rfl rfl (Nat.le_of_ble_eq_true rfl) (dk dX0_daysLeft_0 2 rfl) ?_
  refine k_if_eq (tgt := 30) C (dk dX0_daysLeft_0 3 rfl) (by decide) h (fun h => ?_) (fun h => ?_)
  ·
    refine k_bipush (v := (-4 : Int32)) C (dk dX0_daysLeft_0 17 rfl) (by decide) ?_
    exact k_iret E (dk dX0_daysLeft_0 18 rfl) h
  ·
    refine k_iload_n C (dk dX0_daysLeft_0 4 rfl) rfl 2 rfl ?_
    refine k_i2l C (dk dX0_daysLeft_0 5 rfl) ?_
    refine cl2_k h (fun x4 s3 hc h => ?_)
    refine k_cn (As := [.long a2.toInt64]) (st := []) C (qX10_isCell l g hg hc) (iW5 _ (List.mem_of_getElem? (i := 21) rfl)) rfl rfl (List.mem_of_getElem? (i := 5) rfl) (iW5 _ (List.mem_of_getElem? (i := 20) rfl)) (iW0 _ (List.mem_of_getElem? (i := 2) rfl)) hdX10_isCell (by decide) rfl rfl (Nat.le_of_ble_eq_true rfl) (dk dX0_daysLeft_0 6 rfl) ?_
    refine k_if_eq (tgt := 30) C (dk dX0_daysLeft_0 7 rfl) (by decide) h (fun h => ?_) (fun h => ?_)
    ·
      refine k_bipush (v := (-4 : Int32)) C (dk dX0_daysLeft_0 17 rfl) (by decide) ?_
      exact k_iret E (dk dX0_daysLeft_0 18 rfl) h
    ·
      refine k_aload_n C (dk dX0_daysLeft_0 8 rfl) rfl 0 rfl ?_
      refine k_getR (q := 35) (D := RX0) (T := TX0) (N := 9) (ci := 0) (k := 6) C iCX0 rfl (by decide) rfl (by decide) (iW1 _ (List.mem_of_getElem? (i := 29) rfl)) rfl (dk dX0_daysLeft_0 9 rfl) ?_
      refine k_iload_n C (dk dX0_daysLeft_0 10 rfl) rfl 1 rfl ?_
      refine k_bipush (v := (36 : Int32)) C (dk dX0_daysLeft_0 11 rfl) (by decide) ?_
      refine k_imul C (dk dX0_daysLeft_0 12 rfl) ?_
      refine k_iload_n C (dk dX0_daysLeft_0 13 rfl) rfl 2 rfl ?_
      refine k_iadd C (dk dX0_daysLeft_0 14 rfl) ?_
      refine k_iald C rfl rfl (dk dX0_daysLeft_0 15 rfl) h (fun x5 h => ?_)
      refine k_goto (tgt := 32) C (dk dX0_daysLeft_0 16 rfl) (by decide) ?_
      exact k_iret E (dk dX0_daysLeft_0 18 rfl) h
set_option maxRecDepth 100000 in
set_option maxHeartbeats 4000000 in
theorem qX0_nextPair (l : Launch) (g : G) (hg : gOK g) {a1 : Int32} {a2 : Int32}  {s0 σe : St} {v : Int32} (h : mX0_nextPair a1 a2 s0 = some (v, σe)) : Mc l g yX0_nextPair cX0_nextPair 10 (some .int) { frames := 2, cells := 0, slots := 0, locals := 43 } [.ref (g.2.2 28), .int a1, .int a2] s0 (some (.int v)) σe := by
  refine k_enter hg pnRX0 rfl (Nat.le_of_ble_eq_true rfl) ?_
  intro WK E
  have C := kX_y E
  unfold mX0_nextPair at h
  show WK 0 [(0, .ref (g.2.2 28)), (1, .int a1), (2, .int a2)] [] s0
  refine k_aload_n C (dk dX0_nextPair_0 0 rfl) rfl 0 rfl ?_
  refine k_iload_n C (dk dX0_nextPair_0 1 rfl) rfl 1 rfl ?_
  refine k_iload_n C (dk dX0_nextPair_0 2 rfl) rfl 2 rfl ?_
  refine cl2_k h (fun x2 s1 hc h => ?_)
  refine k_cv (T := TX0) (N := 9) (ci := 0) (ob := 28) (As := [.int a1, .int a2]) (st := []) C (qX0_daysLeft l g hg hc) (iW22 _ (List.mem_of_getElem? (i := 0) rfl)) (iW22 _ (List.mem_of_getElem? (i := 1) rfl)) (iW22 _ (List.mem_of_getElem? (i := 2) rfl)) (iW0 _ (List.mem_of_getElem? (i := 21) rfl)) (iW22 _ (List.mem_of_getElem? (i := 3) rfl)) rfl rfl hdX0_daysLeft (by decide) rfl (by decide) rfl rfl rfl (Nat.le_of_ble_eq_true rfl) (dk dX0_nextPair_0 3 rfl) ?_
  refine k_iconst (v := (1 : Int32)) C (dk dX0_nextPair_0 4 rfl) (by decide) ?_
  refine k_isub C (dk dX0_nextPair_0 5 rfl) ?_
  refine nmI h (fun x3 h => ?_)
  refine k_istore_n (lv' := [(3, .int x3), (0, .ref (g.2.2 28)), (1, .int a1), (2, .int a2)]) C (dk dX0_nextPair_0 6 rfl) rfl (by decide) rfl ?_
  refine k_bipush (v := (-4 : Int32)) C (dk dX0_nextPair_0 7 rfl) (by decide) ?_
  refine k_istore (lv' := [(4, .int (-4 : Int32)), (3, .int x3), (0, .ref (g.2.2 28)), (1, .int a1), (2, .int a2)]) C (dk dX0_nextPair_0 8 rfl) (by decide) rfl ?_
  refine k_iconst (v := (0 : Int32)) C (dk dX0_nextPair_0 9 rfl) (by decide) ?_
  refine k_istore (lv' := [(5, .int (0 : Int32)), (4, .int (-4 : Int32)), (3, .int x3), (0, .ref (g.2.2 28)), (1, .int a1), (2, .int a2)]) C (dk dX0_nextPair_0 10 rfl) (by decide) rfl ?_
  refine kl_L (P := (fun J16 => ∀ (y4 : Int32) (y5 : Int32) (s6 : St), J16 y4 y5 s6 = some (v, σe) → WK 16 [(0, .ref (g.2.2 28)), (1, .int a1), (2, .int a2), (3, .int x3), (4, .int y4), (5, .int y5)] [] s6)) h (fun _ _ _ h => nomatch h) (fun J16 hJ16 y4 y5 s6 h => ?_) (fun J16 hJ16 h => ?_)
  ·
    unfold mX0_nextPair_16 at h
    refine k_iload C (dk dX0_nextPair_0 11 rfl) 5 rfl ?_
    refine k_iconst (v := (5 : Int32)) C (dk dX0_nextPair_0 12 rfl) (by decide) ?_
    refine k_icmp_ge (tgt := 103) C (dk dX0_nextPair_0 13 rfl) (by decide) h (fun h => ?_) (fun h => ?_)
    ·
      refine k_iload C (dk dX0_nextPair_1 21 rfl) 4 rfl ?_
      exact k_iret E (dk dX0_nextPair_1 22 rfl) h
    ·
      refine k_iconst (v := (0 : Int32)) C (dk dX0_nextPair_0 14 rfl) (by decide) ?_
      refine k_istore (lv' := [(6, .int (0 : Int32)), (0, .ref (g.2.2 28)), (1, .int a1), (2, .int a2), (3, .int x3), (4, .int y4), (5, .int y5)]) C (dk dX0_nextPair_0 15 rfl) (by decide) rfl ?_
      refine kl_L (P := (fun J25 => ∀ (y7 : Int32) (y8 : Int32) (s9 : St), J25 y7 y8 s9 = some (v, σe) → WK 25 [(0, .ref (g.2.2 28)), (1, .int a1), (2, .int a2), (3, .int x3), (4, .int y7), (5, .int y5), (6, .int y8)] [] s9)) h (fun _ _ _ h => nomatch h) (fun J25 hJ25 y7 y8 s9 h => ?_) (fun J25 hJ25 h => ?_)
      ·
        unfold mX0_nextPair_25 at h
        refine k_iload C (dk dX0_nextPair_0 16 rfl) 6 rfl ?_
        refine k_iconst (v := (5 : Int32)) C (dk dX0_nextPair_0 17 rfl) (by decide) ?_
        refine k_icmp_ge (tgt := 97) C (dk dX0_nextPair_0 18 rfl) (by decide) h (fun h => ?_) (fun h => ?_)
        ·
          refine k_iinc (lv' := [(5, .int (y5 + 1)), (0, .ref (g.2.2 28)), (1, .int a1), (2, .int a2), (3, .int x3), (4, .int y7), (6, .int y8)]) C (dk dX0_nextPair_1 19 rfl) (j := 5) rfl rfl (by decide) rfl ?_
          refine k_goto (tgt := 16) C (dk dX0_nextPair_1 20 rfl) (by decide) ?_
          refine k_sub C [1, 2, 3, 4, 5, 0] rfl ?_
          exact hJ16 _ _ _ h
        ·
          refine k_iload_n C (dk dX0_nextPair_0 19 rfl) rfl 1 rfl ?_
          refine k_iload C (dk dX0_nextPair_0 20 rfl) 5 rfl ?_
          refine cl2_k h (fun x11 s10 hc h => ?_)
          refine k_cs (As := [.int a1, .int y5]) (st := []) C (qX7_cellTo l g hg hc) (iW20 _ (List.mem_of_getElem? (i := 22) rfl)) (iW7 _ (List.mem_of_getElem? (i := 3) rfl)) (iW7 _ (List.mem_of_getElem? (i := 4) rfl)) (iW7 _ (List.mem_of_getElem? (i := 5) rfl)) rfl rfl hdX7_cellTo (by decide) rfl rfl (Nat.le_of_ble_eq_true rfl) (dk dX0_nextPair_0 21 rfl) ?_
          refine k_istore (lv' := [(7, .int x11), (0, .ref (g.2.2 28)), (1, .int a1), (2, .int a2), (3, .int x3), (4, .int y7), (5, .int y5), (6, .int y8)]) C (dk dX0_nextPair_0 22 rfl) (by decide) rfl ?_
          refine k_iload_n C (dk dX0_nextPair_0 23 rfl) rfl 3 rfl ?_
          refine k_iload C (dk dX0_nextPair_0 24 rfl) 7 rfl ?_
          refine cl2_k h (fun x13 s12 hc h => ?_)
          refine k_cs (As := [.int a2, .int y8]) (st := []) C (qX7_cellTo l g hg hc) (iW20 _ (List.mem_of_getElem? (i := 22) rfl)) (iW7 _ (List.mem_of_getElem? (i := 3) rfl)) (iW7 _ (List.mem_of_getElem? (i := 4) rfl)) (iW7 _ (List.mem_of_getElem? (i := 5) rfl)) rfl rfl hdX7_cellTo (by decide) rfl rfl (Nat.le_of_ble_eq_true rfl) (dk dX0_nextPair_0 25 rfl) ?_
          refine k_istore (lv' := [(8, .int x13), (7, .int x11), (0, .ref (g.2.2 28)), (1, .int a1), (2, .int a2), (3, .int x3), (4, .int y7), (5, .int y5), (6, .int y8)]) C (dk dX0_nextPair_0 26 rfl) (by decide) rfl ?_
          refine k_bipush (v := (100 : Int32)) C (dk dX0_nextPair_0 27 rfl) (by decide) ?_
          refine k_iload C (dk dX0_nextPair_0 28 rfl) 1 rfl ?_
          refine k_imul C (dk dX0_nextPair_0 29 rfl) ?_
          refine k_iload C (dk dX0_nextPair_0 30 rfl) 0 rfl ?_
          refine k_iadd C (dk dX0_nextPair_0 31 rfl) ?_
          refine nmI h (fun x14 h => ?_)
          refine k_istore (lv' := [(9, .int x14), (8, .int x13), (7, .int x11), (0, .ref (g.2.2 28)), (1, .int a1), (2, .int a2), (3, .int x3), (4, .int y7), (5, .int y5), (6, .int y8)]) C (dk dX0_nextPair_1 0 rfl) (by decide) rfl ?_
          refine k_iload_n C (dk dX0_nextPair_1 1 rfl) rfl 6 rfl ?_
          refine kl_J (P := (fun J91 => ∀ (y15 : Int32) (y16 : Int32) (s17 : St), J91 y15 y16 s17 = some (v, σe) → WK 91 [(0, .ref (g.2.2 28)), (1, .int a1), (2, .int a2), (3, .int x3), (4, .int y15), (5, .int y5), (6, .int y16)] [] s17)) h (fun y15 y16 s17 h => ?_) (fun J91 hJ91 h => ?_)
          ·
            unfold mX0_nextPair_91 at h
            refine k_iinc (lv' := [(6, .int (y16 + 1)), (0, .ref (g.2.2 28)), (1, .int a1), (2, .int a2), (3, .int x3), (4, .int y15), (5, .int y5)]) C (dk dX0_nextPair_1 17 rfl) (j := 6) rfl rfl (by decide) rfl ?_
            refine k_goto (tgt := 25) C (dk dX0_nextPair_1 18 rfl) (by decide) ?_
            refine k_sub C [1, 2, 3, 4, 5, 6, 0] rfl ?_
            exact hJ25 _ _ _ h
          ·
            refine k_if_lt (tgt := 91) C (dk dX0_nextPair_1 2 rfl) (by decide) h (fun h => ?_) (fun h => ?_)
            ·
              refine k_sub C [3, 4, 5, 6, 7, 8, 9] rfl ?_
              exact hJ91 _ _ _ h
            ·
              refine k_aload_n C (dk dX0_nextPair_1 3 rfl) rfl 3 rfl ?_
              refine k_iload C (dk dX0_nextPair_1 4 rfl) 2 rfl ?_
              refine k_iload C (dk dX0_nextPair_1 5 rfl) 1 rfl ?_
              refine cl2_k h (fun x19 s18 hc h => ?_)
              refine k_cv (T := TX0) (N := 9) (ci := 0) (ob := 28) (As := [.int x11, .int x13]) (st := []) C (qX0_daysLeft l g hg hc) (iW22 _ (List.mem_of_getElem? (i := 0) rfl)) (iW22 _ (List.mem_of_getElem? (i := 1) rfl)) (iW22 _ (List.mem_of_getElem? (i := 2) rfl)) (iW0 _ (List.mem_of_getElem? (i := 21) rfl)) (iW22 _ (List.mem_of_getElem? (i := 3) rfl)) rfl rfl hdX0_daysLeft (by decide) rfl (by decide) rfl rfl rfl (Nat.le_of_ble_eq_true rfl) (dk dX0_nextPair_1 6 rfl) ?_
              refine k_iload_n C (dk dX0_nextPair_1 7 rfl) rfl 6 rfl ?_
              refine k_icmp_ne (tgt := 91) C (dk dX0_nextPair_1 8 rfl) (by decide) h (fun h => ?_) (fun h => ?_)
              ·
                refine k_sub C [3, 4, 5, 6, 7, 8, 9] rfl ?_
                exact hJ91 _ _ _ h
              ·
                refine k_iload C (dk dX0_nextPair_1 9 rfl) 7 rfl ?_
                refine k_bipush (v := (-4 : Int32)) C (dk dX0_nextPair_1 10 rfl) (by decide) ?_
                refine kl_J (P := (fun J87 => ∀ (s20 : St), J87 s20 = some (v, σe) → WK 87 [(0, .ref (g.2.2 28)), (1, .int a1), (2, .int a2), (3, .int x3), (5, .int y5), (6, .int y8), (9, .int x14)] [] s20)) h (fun s20 h => ?_) (fun J87 hJ87 h => ?_)
                ·
                  unfold mX0_nextPair_87 at h
                  refine k_iload C (dk dX0_nextPair_1 15 rfl) 6 rfl ?_
                  refine k_istore (lv' := [(4, .int x14), (0, .ref (g.2.2 28)), (1, .int a1), (2, .int a2), (3, .int x3), (5, .int y5), (6, .int y8), (9, .int x14)]) C (dk dX0_nextPair_1 16 rfl) (by decide) rfl ?_
                  refine k_sub C [1, 2, 3, 4, 0, 5, 6] rfl ?_
                  exact hJ91 _ _ _ h
                ·
                  refine k_icmp_eq (tgt := 87) C (dk dX0_nextPair_1 11 rfl) (by decide) h (fun h => ?_) (fun h => ?_)
                  ·
                    refine k_sub C [3, 4, 5, 6, 8, 9, 0] rfl ?_
                    exact hJ87 _ h
                  ·
                    refine k_iload C (dk dX0_nextPair_1 12 rfl) 0 rfl ?_
                    refine k_iload C (dk dX0_nextPair_1 13 rfl) 7 rfl ?_
                    refine k_icmp_ge (tgt := 91) C (dk dX0_nextPair_1 14 rfl) (by decide) h (fun h => ?_) (fun h => ?_)
                    ·
                      refine k_sub C [3, 4, 5, 6, 7, 8, 9] rfl ?_
                      exact hJ91 _ _ _ h
                    ·
                      refine k_sub C [3, 4, 5, 6, 8, 9, 0] rfl ?_
                      exact hJ87 _ h
      ·
        refine k_sub C [1, 2, 3, 4, 5, 6, 0] rfl ?_
        exact hJ25 _ _ _ h
  ·
    refine k_sub C [3, 4, 5, 2, 1, 0] rfl ?_
    exact hJ16 _ _ _ h
