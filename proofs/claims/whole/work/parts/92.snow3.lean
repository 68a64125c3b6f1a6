/-! ===== PURE: snow ===== -/
theorem in19_t : ∀ v, v < 11 → inR (nI v) 1 9 = (decide (0 < v) && decide (v < 10)) := by decide +kernel
theorem bits_m {L : Ld} {m a b : Nat} {y14 : Int64} {J138 : Int64 → Int32 → St → Option (Int64 × St)} {s : St} (hl : lm s = L) (hL : Ldok L) (hm : m < 256) (ha : a < 36) (hb : b < 36) (h8 : cnt (unN L) 36 ≤ 8) (hu : ∀ k, k < cnt (unN L) 36 → gA s 64 k = nI (ucN L k)) : (lp (fun _ _ _ _ => none) (mX11_snow_157 (nI (cnt (unN L) 36)) (nI a) (nI b) y14 J138 (nI m)) 2000) (bs (suN L)) (1 : Int64) (0 : Int32) s = J138 (y14 + lN (liN L a b m)) (nI (m + 1)) s := by
  have e0 : bs (suN L) = bs (ckN L m 0) := bs_eq (fun e _ => by
    show suN L e = (suN L e || false)
    rw [Bool.or_false])
  rw [e0]
  refine lp_for (app := fun k (J : Int64 → Int64 → Int32 → St → Option (Int64 × St)) => J (bs (ckN L m k)) (lN (wkN L m k)) (nI k) s) (cnt (unN L) 36) _ ?_ ?_ 2000 (by omega)
  · intro k hk J
    obtain ⟨h1, h2, h3⟩ := ucN_k hk
    have hv := chN_e hL h1
    have hck : ∀ e, ckN L m (k + 1) e = (ckN L m k e || (m.testBit k && decide (ucN L k = e))) := fun e => by
      show (suN L e || (anyN (fun j => m.testBit j && decide (ucN L j = e)) k || (m.testBit k && decide (ucN L k = e)))) = _
      rw [← Bool.or_assoc]; rfl
    have hfa : faN L m (ucN L k) = if m.testBit k then chN L (ucN L k) else 10 - chN L (ucN L k) := by unfold faN; rw [h3]
    unfold mX11_snow_157 mX11_snow_180 mX11_snow_202 mX11_snow_242
    rw [if_neg (nI_ge hk (by omega))]
    simp only [kl_e, ldA_8 (show k < 8 by omega), hu k hk, chance_m h1, cl2_e, hl, hv.1, nI_1, ite_true, if_neg n10, sh_c h1, bs_or]
    by_cases z : m.testBit k = true
    · rw [if_pos z] at hfa
      rw [if_pos (by rw [tb_e hm (by omega)]; exact z), nI_l (by omega), lN_mul, ← hfa]
      refine congrArg (fun x => J x (lN (wkN L m k * faN L m (ucN L k))) (nI (k + 1)) s) (bs_eq (fun e _ => ?_))
      rw [hck, z, Bool.true_and]
      by_cases y : e = ucN L k
      · rw [y, decide_eq_true rfl]
      · rw [decide_eq_false y, decide_eq_false (fun w => y w.symm)]
    · rw [if_neg z] at hfa
      rw [if_neg (by rw [tb_e hm (by omega)]; exact z), show (10 : Int32) = nI 10 from rfl, pk_sub (by omega), nI_l (by omega), lN_mul, ← hfa, show ∀ x : Int64, x ||| 0 = x from fun x => by simp]
      refine congrArg (fun x => J x (lN (wkN L m k * faN L m (ucN L k))) (nI (k + 1)) s) (bs_eq (fun e _ => ?_))
      rw [hck, Bool.eq_false_iff.2 z, Bool.false_and, Bool.or_false]
  · intro J
    unfold mX11_snow_157 mX11_snow_269
    have hpa : bs (ckN L m (cnt (unN L) 36)) = bs (paN L m) := bs_eq (fun e he => ck_pa he)
    have hli : liN L a b m = if dst (paN L m) a b < 36 then wgN L m 36 else 0 := rfl
    rw [if_pos (Int32.le_refl _), hpa, isWay_m ha hb, cl2_e, hli, ← wk_wg 36 (Nat.le_refl _)]
    simp only [kl_e, nI_1]
    by_cases z : dst (paN L m) a b < 36
    · rw [decide_eq_true z, b2_t, if_neg n10, if_pos z]
    · rw [decide_eq_false z, b2_f, if_pos rfl, if_neg z]
      rfl
theorem snow_m {L : Ld} {a b : Nat} {a3 : Int32} {σ : St} (hl : lm σ = L) (hL : Ldok L) (ha : a < 36) (hb : b < 36) (h3 : a3 = 0 ∨ a3 = 1) : ∃ τ, (lp (fun _ _ _ _ _ => none) (mX11_snow_47 a3 (nI a) (nI b)) 2000) (0 : Int64) (0 : Int32) (1 : Int64) (0 : Int32) σ = some (if 8 < cnt (unN L) 36 then -1000000003 else lN (pvN (smN (liN L a b) (2 ^ cnt (unN L) 36)) (10 ^ cnt (unN L) 36) a3), τ) ∧ core τ = core σ := by
  refine lp_rx (bot := fun (_ : Int64) (_ : Int32) (_ : Int64) (_ : Int32) (_ : St) => (none : Option (Int64 × St))) (app := fun c (s : St) (J : Int64 → Int32 → Int64 → Int32 → St → Option (Int64 × St)) => J (bsn (suN L) c) (nI (cnt (unN L) c)) (lN (10 ^ cnt (unN L) c)) (nI c) s) (P := fun c s => core s = core σ ∧ cnt (unN L) c ≤ 8 ∧ ∀ k, k < cnt (unN L) c → gA s 64 k = nI (ucN L k)) 36 (Q := fun r => ∃ τ, r = some (if 8 < cnt (unN L) 36 then -1000000003 else lN (pvN (smN (liN L a b) (2 ^ cnt (unN L) 36)) (10 ^ cnt (unN L) 36) a3), τ) ∧ core τ = core σ) ?_ ?_ 2000 0 σ (by omega) (by omega) ⟨rfl, Nat.zero_le _, fun k hk => absurd hk (Nat.not_lt_zero _)⟩
  · intro c s hc ⟨g1, g2, g3⟩ J
    have hls : lm s = L := by rw [lm_core g1, hl]
    have hv := chN_e hL hc
    have hS : cnt (unN L) (c + 1) = cnt (unN L) c + (unN L c).toNat := rfl
    have hin : mX11_in (nI (chN L c)).toInt64 (1 : Int64) (9 : Int64) s = some (b2 (unN L c), s) := by
      have h1 := in_m (nI (chN L c)) 1 9 s
      rw [in19_t _ (by omega)] at h1
      exact h1
    have turn : ∀ x, bsn (suN L) c ||| x = bsn (suN L) (c + 1) → ((∃ τ, mX11_snow_75 (bsn (suN L) c) (nI c) J (nI (cnt (unN L) c)) (lN (10 ^ cnt (unN L) c)) x s = some (if 8 < cnt (unN L) 36 then -1000000003 else lN (pvN (smN (liN L a b) (2 ^ cnt (unN L) 36)) (10 ^ cnt (unN L) 36) a3), τ) ∧ core τ = core σ) ∨ ∃ x', (core x' = core σ ∧ cnt (unN L) (c + 1) ≤ 8 ∧ ∀ k, k < cnt (unN L) (c + 1) → gA x' 64 k = nI (ucN L k)) ∧ mX11_snow_75 (bsn (suN L) c) (nI c) J (nI (cnt (unN L) c)) (lN (10 ^ cnt (unN L) c)) x s = J (bsn (suN L) (c + 1)) (nI (cnt (unN L) (c + 1))) (lN (10 ^ cnt (unN L) (c + 1))) (nI (c + 1)) x') := by
      intro x hx
      unfold mX11_snow_75 mX11_snow_126
      rw [kl_e, hx, chance_m hc, cl2_e, hls, hv.1, hin, cl2_e]
      simp only [kl_e, nI_1]
      rw [hS]
      cases y : unN L c
      · right
        rw [b2_f, if_pos rfl]
        exact ⟨s, ⟨g1, g2, g3⟩, rfl⟩
      · rw [b2_t, if_neg n10]
        by_cases z : cnt (unN L) c = 8
        · left
          have hbig : 8 < cnt (unN L) 36 := by
            have a1 : cnt (unN L) (c + 1) = cnt (unN L) c + 1 := by rw [hS, y]; rfl
            have a2 := cnt_up (S := unN L) (n := c + 1) (m := 36) (by omega)
            omega
          rw [if_pos (show nI (cnt (unN L) c) = 8 by rw [z]; rfl), if_pos hbig]
          exact ⟨s, rfl, g1⟩
        · right
          rw [if_neg (show ¬ nI (cnt (unN L) c) = 8 from nI_ne (b := 8) (by omega) (by omega) z), stA_8 (show cnt (unN L) c < 8 by omega)]
          refine ⟨pA s 64 (cnt (unN L) c) (nI c), ⟨by rw [core_pA rfl, g1], by show cnt (unN L) c + 1 ≤ 8; omega, fun k hk => ?_⟩, ?_⟩
          · have hk' : k < cnt (unN L) c + 1 := hk
            by_cases w : k = cnt (unN L) c
            · rw [w, gA_pA_eq, ucN_is hc y]
            · rw [gA_pA_ne (by omega)]; exact g3 k (by omega)
          · show J _ _ (lN (10 ^ cnt (unN L) c) * 10) _ _ = J _ _ (lN (10 ^ (cnt (unN L) c + 1))) _ _
            rw [show (10 : Int64) = lN 10 from rfl, lN_mul, Nat.pow_succ]
            rfl
    show (∃ τ, mX11_snow_47 a3 (nI a) (nI b) J (bsn (suN L) c) (nI (cnt (unN L) c)) (lN (10 ^ cnt (unN L) c)) (nI c) s = some (_, τ) ∧ _) ∨ ∃ x', _ ∧ mX11_snow_47 a3 (nI a) (nI b) J (bsn (suN L) c) (nI (cnt (unN L) c)) (lN (10 ^ cnt (unN L) c)) (nI c) s = J _ _ _ (nI (c + 1)) x'
    unfold mX11_snow_47
    have hbs : bsn (suN L) (c + 1) = if suN L c then bsn (suN L) c ||| ((1 : Int64) <<< lN c) else bsn (suN L) c := rfl
    rw [if_neg (lt36 hc), chance_m hc, cl2_e, hls, hv.1, kl_e, sh_c hc]
    by_cases z : chN L c = 10
    · rw [if_pos (show nI (chN L c) = 10 by rw [z]; rfl)]
      refine turn _ ?_
      rw [hbs, bs_bit hc]
      unfold suN
      rw [decide_eq_true z, if_pos rfl]
    · rw [if_neg (show ¬ nI (chN L c) = 10 from nI_ne (b := 10) (by omega) (by omega) z)]
      refine turn _ ?_
      rw [hbs]
      unfold suN
      rw [decide_eq_false z, if_neg (by decide)]
      simp
  · intro s ⟨g1, g2, g3⟩ J
    have hls : lm s = L := by rw [lm_core g1, hl]
    have hle : ¬ 8 < cnt (unN L) 36 := by omega
    have h2 : 2 ^ cnt (unN L) 36 ≤ 256 := by
      have := Nat.pow_le_pow_right (show 2 > 0 by omega) g2
      exact this
    have hp := part_snow hL (a := a) (b := b) g2
    rw [if_neg hle]
    show ∃ τ, mX11_snow_47 a3 (nI a) (nI b) J (bsn (suN L) 36) (nI (cnt (unN L) 36)) (lN (10 ^ cnt (unN L) 36)) (nI 36) s = some (_, τ) ∧ _
    unfold mX11_snow_47
    rw [if_pos at36, kl_e]
    refine ⟨s, ?_, g1⟩
    generalize hw : 2 ^ cnt (unN L) 36 = w at h2 hp
    refine lp_for (app := fun m (J : Int64 → Int32 → St → Option (Int64 × St)) => J (lN (smN (liN L a b) m)) (nI m) s) w _ ?_ ?_ 2000 (by omega)
    · intro m hm J
      unfold mX11_snow_138
      rw [sh_t _ (by omega), hw, if_neg (nI_ge hm (by omega)), kl_e]
      have := bits_m (y14 := lN (smN (liN L a b) m)) (J138 := J) hls hL (show m < 256 by omega) ha hb g2 g3
      rw [lN_add] at this
      exact this
    · intro J
      unfold mX11_snow_138
      rw [sh_t _ (by omega), hw, if_pos (Int32.le_refl _), partOf_m h3 (k := 63) (by omega) hp.1 hp.2.1 hp.2.2, cl2_e]
theorem s_snow : stp364 Inv mX10_snow mX11_snow := by
  intro σ a b c hI
  have jc : ∀ τ, mX11_in c.toInt64 (0 : Int64) (1 : Int64) τ = some (b2 (inR c 0 1), τ) := fun τ => in_m c 0 1 τ
  have no : ∀ {f g : St → Option (Int64 × St)}, f σ = some (-1000000001, σ) → g σ = some (-1000000001, pI σ 45 16 0) → ∃ (v : Int64) (σ1 σ2 : St), f σ = some (v, σ1) ∧ g σ1 = some (v, σ2) ∧ Inv σ2 := fun h1 h2 => ⟨_, _, _, h1, h2, Inv_core c16 hI⟩
  have h23 : ∀ s, mX10_snow_23 s = some ((-1000000001 : Int64), s) := fun s => rfl
  have h31 : ∀ s, mX11_snow_31 s = some ((-1000000001 : Int64), s) := fun s => rfl
  rcases cell_or a with ha | ⟨x, hx, rfl⟩
  · refine no ?_ ?_
    · unfold mX10_snow; rw [ncell_c ha, cl2_e, kl_e, if_pos rfl, h23]
    · unfold mX11_snow; rw [kl_e, ncell_m ha, cl2_e, kl_e, if_pos rfl, h31]
  rcases cell_or b with hb | ⟨y, hy, rfl⟩
  · refine no ?_ ?_
    · unfold mX10_snow; rw [cell_c hx, cl2_e, kl_e, if_neg n10, ncell_c hb, cl2_e, if_pos rfl, h23]
    · unfold mX11_snow; rw [kl_e, cell_m hx, cl2_e, kl_e, if_neg n10, ncell_m hb, cl2_e, if_pos rfl, h31]
  rcases either_or c with h | h
  · refine no ?_ ?_
    · unfold mX10_snow; rw [cell_c hx, cl2_e, kl_e, if_neg n10, cell_c hy, cl2_e, if_neg n10, either_c, h, cl2_e, b2_f, if_pos rfl, h23]
    · unfold mX11_snow; rw [kl_e, cell_m hx, cl2_e, kl_e, if_neg n10, cell_m hy, cl2_e, if_neg n10, jc, h, cl2_e, b2_f, if_pos rfl, h31]
  have hp : c = 0 ∨ c = 1 := by rcases h with h | h; exact Or.inl h.1; exact Or.inr h.1
  have ht : inR c 0 1 = true := by rcases h with h | h <;> exact h.2
  obtain ⟨τ, t1, t2⟩ := snow_m (L := ld σ 1) (a3 := c) (σ := pI σ 45 16 0) (by rw [lm_16, hI.1]) hI.2.1 hx hy hp
  refine ⟨if 8 < cnt (unN (ld σ 1)) 36 then -1000000003 else lN (pvN (smN (liN (ld σ 1) x y) (2 ^ cnt (unN (ld σ 1)) 36)) (10 ^ cnt (unN (ld σ 1)) 36) c), σ, τ, ?_, ?_, Inv_core (by rw [t2, c16]) hI⟩
  · unfold mX10_snow mX10_ofLongs
    have hc36 := cnt_le (S := unN (ld σ 1)) 36
    rw [cell_c hx, cl2_e, kl_e, if_neg n10, cell_c hy, cl2_e, if_neg n10, either_c, ht, cl2_e, b2_t, if_neg n10, unsure_c rfl hI.2.1, cl2_e, bitCount_c, cl2_e]
    by_cases z : 8 < cnt (unN (ld σ 1)) 36
    · rw [if_pos z, if_neg (show ¬ nI (cnt (unN (ld σ 1)) 36) ≤ 8 from nI_ge (a := 8) z (by omega)), cl2_e]
      rfl
    · rw [if_neg z, if_pos (show nI (cnt (unN (ld σ 1)) 36) ≤ 8 from nI_le (b := 8) (by omega) (by omega)), kl_e]
      have hps := part_snow hI.2.1 (a := x) (b := y) (show cnt (unN (ld σ 1)) 36 ≤ 8 by omega)
      refine lp_for (app := fun i (J : Int64 → Int32 → St → Option (Int64 × St)) => J (lN (10 ^ i)) (nI i) σ) (cnt (unN (ld σ 1)) 36) _ ?_ ?_ 2000 (by omega)
      · intro i hi J
        unfold mX10_snow_59
        rw [if_neg (nI_ge hi (by omega)), kl_e, nI_1, show (10 : Int64) = lN 10 from rfl, lN_mul, Nat.pow_succ]
      · intro J
        unfold mX10_snow_59
        rw [if_pos (Int32.le_refl _), likely_c rfl hI.2.1 hx hy (by omega), cl2_e, partOf_c (k := 63) (by omega) hps.1 hps.2.1 hps.2.2, cl2_e]
  · unfold mX11_snow
    rw [kl_e, cell_m hx, cl2_e, kl_e, if_neg n10, cell_m hy, cl2_e, if_neg n10, jc, ht, cl2_e, b2_t, if_neg n10, kl_e, t1]
