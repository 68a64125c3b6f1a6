/-! ===== PURE: the class's way to count bits (Long.bitCount) ===== -/
def p8 (y : Nat) : Nat := cnt (fun i => y.testBit i) 8
def w1 (y : Nat) : Nat := y - ((y / 2) &&& 0x55)
def w2 (y : Nat) : Nat := (w1 y &&& 0x33) + ((w1 y / 4) &&& 0x33)
def w3 (y : Nat) : Nat := (w2 y + w2 y / 16) &&& 0x0f
theorem w3_t : ∀ y, y < 256 → w3 y = p8 y ∧ (y / 2) &&& 0x55 ≤ y ∧ w2 y < 256 ∧ w2 y + w2 y / 16 < 256 ∧ w1 y < 256 := by decide +kernel
theorem and_256 (a b c d : Nat) (hb : b < 256) (hd : d < 256) : (256 * a + b) &&& (256 * c + d) = 256 * (a &&& c) + (b &&& d) := by
  apply Nat.eq_of_testBit_eq
  intro j
  rw [Nat.testBit_and, show 256 = 2 ^ 8 from rfl, Nat.testBit_two_pow_mul_add _ hb, Nat.testBit_two_pow_mul_add _ hd, Nat.testBit_two_pow_mul_add _ (Nat.and_lt_two_pow b hd)]
  by_cases h : j < 8
  · rw [if_pos h, if_pos h, if_pos h, Nat.testBit_and]
  · rw [if_neg h, if_neg h, if_neg h, Nat.testBit_and]
/-- n bytes of the same mask -/
def mk (m : Nat) : Nat → Nat
  | 0 => 0
  | n + 1 => 256 * mk m n + m
def fby (f : Nat → Nat) : Nat → Nat → Nat
  | 0, _ => 0
  | n + 1, x => 256 * fby f n (x / 256) + f (x % 256)
theorem sub_t : ∀ y, y < 256 → ∀ b, b < 2 → (b * 128 + y / 2) &&& 0x55 = (y / 2) &&& 0x55 := by decide +kernel
theorem sh2_t : ∀ y, y < 256 → ∀ b, b < 4 → (b * 64 + w1 y / 4) &&& 0x33 = (w1 y / 4) &&& 0x33 := by decide +kernel
theorem sh4_t : ∀ y, y < 256 → ∀ b, b < 16 → (b * 16 + (w2 y + w2 y / 16)) % 256 &&& 0x0f = w3 y := by decide +kernel
theorem half_by : ∀ n x, x < 256 ^ n → (x / 2) &&& mk 0x55 n = fby (fun y => (y / 2) &&& 0x55) n x ∧ fby (fun y => (y / 2) &&& 0x55) n x ≤ x ∧ x - fby (fun y => (y / 2) &&& 0x55) n x = fby w1 n x
  | 0, x, h => by
    have : x = 0 := by simp at h; exact h
    subst this
    simp [mk, fby]
  | n + 1, x, h => by
    have hq : x / 256 < 256 ^ n := by
      apply Nat.div_lt_of_lt_mul
      rw [Nat.pow_succ] at h; omega
    obtain ⟨i1, i2, i3⟩ := half_by n (x / 256) hq
    have hr : x % 256 < 256 := Nat.mod_lt _ (by omega)
    have ht := (w3_t _ hr).2.1
    have e1 : x / 2 = 256 * (x / 256 / 2) + (x / 256 % 2 * 128 + x % 256 / 2) := by omega
    have e2 : (x / 2) &&& mk 0x55 (n + 1) = 256 * fby (fun y => (y / 2) &&& 0x55) n (x / 256) + ((x % 256 / 2) &&& 0x55) := by
      rw [e1, show mk 0x55 (n + 1) = 256 * mk 0x55 n + 0x55 from rfl, and_256 _ _ _ _ (by omega) (by omega), i1, sub_t _ hr _ (by omega)]
    refine ⟨e2, ?_, ?_⟩
    · show 256 * fby (fun y => (y / 2) &&& 0x55) n (x / 256) + ((x % 256 / 2) &&& 0x55) ≤ x
      omega
    · show x - (256 * fby (fun y => (y / 2) &&& 0x55) n (x / 256) + ((x % 256 / 2) &&& 0x55)) = 256 * fby w1 n (x / 256) + (x % 256 - ((x % 256 / 2) &&& 0x55))
      omega
theorem fby_lt {f : Nat → Nat} (hf : ∀ y, y < 256 → f y < 256) : ∀ n x, fby f n x < 256 ^ n
  | 0, x => by simp [fby]
  | n + 1, x => by
    have := fby_lt hf n (x / 256)
    have h2 := hf (x % 256) (Nat.mod_lt _ (by omega))
    show 256 * fby f n (x / 256) + f (x % 256) < 256 ^ (n + 1)
    rw [Nat.pow_succ]; omega
theorem two_by : ∀ n x, (fby w1 n x &&& mk 0x33 n) + ((fby w1 n x / 4) &&& mk 0x33 n) = fby w2 n x
  | 0, x => by simp [fby, mk]
  | n + 1, x => by
    have ih := two_by n (x / 256)
    have hr : x % 256 < 256 := Nat.mod_lt _ (by omega)
    have ht := (w3_t _ hr).2.2.2.2
    show ((256 * fby w1 n (x / 256) + w1 (x % 256)) &&& (256 * mk 0x33 n + 0x33)) + (((256 * fby w1 n (x / 256) + w1 (x % 256)) / 4) &&& (256 * mk 0x33 n + 0x33)) = 256 * fby w2 n (x / 256) + w2 (x % 256)
    generalize hA : fby w1 n (x / 256) = A at ih
    have e1 : (256 * A + w1 (x % 256)) / 4 = 256 * (A / 4) + (A % 4 * 64 + w1 (x % 256) / 4) := by omega
    rw [e1, and_256 _ _ _ _ ht (by omega), and_256 _ _ _ _ (by omega) (by omega), sh2_t _ hr _ (by omega), ← ih]
    unfold w2
    omega
theorem w2_t : ∀ y, y < 256 → w2 y % 16 ≤ 4 ∧ w2 y + w2 y / 16 ≤ 72 := by decide +kernel
theorem w2_lo : ∀ n x, fby w2 n x % 16 ≤ 4
  | 0, x => by simp [fby]
  | n + 1, x => by
    have := (w2_t (x % 256) (Nat.mod_lt _ (by omega))).1
    show (256 * fby w2 n (x / 256) + w2 (x % 256)) % 16 ≤ 4
    omega
theorem four_by : ∀ n x, (fby w2 n x + fby w2 n x / 16) &&& mk 0x0f n = fby w3 n x
  | 0, x => by simp [fby, mk]
  | n + 1, x => by
    have ih := four_by n (x / 256)
    have hr : x % 256 < 256 := Nat.mod_lt _ (by omega)
    have ht := (w2_t _ hr).2
    have hl := w2_lo n (x / 256)
    have hs := sh4_t _ hr (fby w2 n (x / 256) % 16) (by omega)
    show ((256 * fby w2 n (x / 256) + w2 (x % 256)) + (256 * fby w2 n (x / 256) + w2 (x % 256)) / 16) &&& (256 * mk 0x0f n + 0x0f) = 256 * fby w3 n (x / 256) + w3 (x % 256)
    generalize hA : fby w2 n (x / 256) = A at *
    have e1 : (256 * A + w2 (x % 256)) + (256 * A + w2 (x % 256)) / 16 = 256 * (A + A / 16) + (A % 16 * 16 + (w2 (x % 256) + w2 (x % 256) / 16)) := by omega
    rw [Nat.mod_eq_of_lt (by omega)] at hs
    rw [e1, and_256 _ _ _ _ (by omega) (by omega), ih, hs]
theorem fby8 (f : Nat → Nat) (x : Nat) : fby f 8 x = f (x % 256) + 256 * (f (x / 256 % 256) + 256 * (f (x / 256 / 256 % 256) + 256 * (f (x / 256 / 256 / 256 % 256) + 256 * (f (x / 256 / 256 / 256 / 256 % 256) + 256 * (f (x / 256 / 256 / 256 / 256 / 256 % 256) + 256 * (f (x / 256 / 256 / 256 / 256 / 256 / 256 % 256) + 256 * f (x / 256 / 256 / 256 / 256 / 256 / 256 / 256 % 256))))))) := by
  simp only [fby]
  omega
theorem dv8 {a r X : Nat} (h : X = a + 256 * r) (ha : a ≤ 64) : X / 2 ^ 8 = r := by omega
theorem w_l (a0 a1 a2 a3 a4 a5 a6 a7 u v : Nat) : a0 + a1 + a2 + a3 + 256 * u + (a4 + a5 + a6 + a7 + 256 * v) = (a0 + a1 + a2 + a3 + a4 + a5 + a6 + a7) + 128 * (2 * u + 2 * v) := by omega
theorem sm1 {F : Nat} (h : F ≤ 5208492444341520456) : F + F / 16 < 2 ^ 64 := by omega
theorem sm2 {a b c : Nat} (h : a = b + c) (l : a < 2 ^ 62) : b + c < 2 ^ 64 := by omega
theorem sm3 {a : Nat} (l : a < 2 ^ 63) : a < 2 ^ 64 := by omega
theorem sm4 (a : Nat) : a % 2 ^ 32 % 128 = a % 128 := by omega
theorem fold_by (a0 a1 a2 a3 a4 a5 a6 a7 X : Nat) (h : a0 ≤ 8 ∧ a1 ≤ 8 ∧ a2 ≤ 8 ∧ a3 ≤ 8 ∧ a4 ≤ 8 ∧ a5 ≤ 8 ∧ a6 ≤ 8 ∧ a7 ≤ 8) (hX : X = a0 + 256 * (a1 + 256 * (a2 + 256 * (a3 + 256 * (a4 + 256 * (a5 + 256 * (a6 + 256 * a7))))))) : ∃ Y Z, Y = X + X / 2 ^ 8 ∧ Z = Y + Y / 2 ^ 16 ∧ (Z + Z / 2 ^ 32) % 128 = a0 + a1 + a2 + a3 + a4 + a5 + a6 + a7 ∧ Y < 2 ^ 62 ∧ Z < 2 ^ 62 ∧ X < 2 ^ 61 ∧ Z + Z / 2 ^ 32 < 2 ^ 63 := by
  obtain ⟨h0, h1, h2, h3, h4, h5, h6, h7⟩ := h
  generalize e7 : a6 + 256 * a7 = r6 at hX
  generalize e6 : a5 + 256 * r6 = r5 at hX
  generalize e5 : a4 + 256 * r5 = r4 at hX
  generalize e4 : a3 + 256 * r4 = r3 at hX
  generalize e3 : a2 + 256 * r3 = r2 at hX
  generalize e2 : a1 + 256 * r2 = r1 at hX
  have b6 : r6 ≤ 2056 := by omega
  have b5 : r5 ≤ 526344 := by omega
  have b4 : r4 ≤ 134744072 := by omega
  have b3 : r3 ≤ 34494482440 := by omega
  have b2 : r2 ≤ 8830587504648 := by omega
  have b1 : r1 ≤ 2260630401189896 := by omega
  have bX : X < 2 ^ 60 := by omega
  have dX : X / 2 ^ 8 = r1 := dv8 hX (by omega)
  have q5 : r5 + r6 = (a5 + a6) + 256 * (r6 + a7) := by omega
  have q4 : r4 + r5 = (a4 + a5) + 256 * (r5 + r6) := by omega
  have q3 : r3 + r4 = (a3 + a4) + 256 * (r4 + r5) := by omega
  have q2 : r2 + r3 = (a2 + a3) + 256 * (r3 + r4) := by omega
  have q1 : r1 + r2 = (a1 + a2) + 256 * (r2 + r3) := by omega
  have dY : X + r1 = (a0 + a1) + 256 * (r1 + r2) := by omega
  have dY2 : (X + r1) / 2 ^ 16 = r2 + r3 := by
    rw [show (2 : Nat) ^ 16 = 2 ^ 8 * 2 ^ 8 from rfl, ← Nat.div_div_eq_div_mul, dv8 dY (by omega), dv8 q1 (by omega)]
  have z3 : (r3 + r4) + (r5 + r6) = (a3 + a4 + a5 + a6) + 256 * ((r4 + r5) + (r6 + a7)) := by omega
  have z2 : (r2 + r3) + (r4 + r5) = (a2 + a3 + a4 + a5) + 256 * ((r3 + r4) + (r5 + r6)) := by omega
  have z1 : (r1 + r2) + (r3 + r4) = (a1 + a2 + a3 + a4) + 256 * ((r2 + r3) + (r4 + r5)) := by omega
  have z0 : (X + r1) + (r2 + r3) = (a0 + a1 + a2 + a3) + 256 * ((r1 + r2) + (r3 + r4)) := by omega
  have dZ : ((X + r1) + (r2 + r3)) / 2 ^ 32 = (r4 + r5) + (r6 + a7) := by
    rw [show (2 : Nat) ^ 32 = 2 ^ 8 * 2 ^ 8 * 2 ^ 8 * 2 ^ 8 from rfl, ← Nat.div_div_eq_div_mul, ← Nat.div_div_eq_div_mul, ← Nat.div_div_eq_div_mul, dv8 z0 (by omega), dv8 z1 (by omega), dv8 z2 (by omega), dv8 z3 (by omega)]
  refine ⟨X + r1, (X + r1) + (r2 + r3), by rw [dX], by rw [dY2], ?_, by omega, by omega, by omega, by rw [dZ]; omega⟩
  rw [dZ]
  have t : (r4 + r5) + (r6 + a7) = (a4 + a5 + a6 + a7) + 256 * (r5 + r6 + a7) := by
    rw [q4, ← e7]; omega
  have w : (X + r1) + (r2 + r3) + ((r4 + r5) + (r6 + a7)) = (a0 + a1 + a2 + a3 + a4 + a5 + a6 + a7) + 128 * (2 * ((r1 + r2) + (r3 + r4)) + 2 * (r5 + r6 + a7)) := by
    rw [z0, t]
    exact w_l a0 a1 a2 a3 a4 a5 a6 a7 _ _
  rw [w, Nat.add_mul_mod_self_left, Nat.mod_eq_of_lt (by omega)]
theorem w2_hi : ∀ n x, fby w2 n x ≤ 72 * mk 1 n
  | 0, x => by simp [fby]
  | n + 1, x => by
    have := w2_hi n (x / 256)
    have h := (w2_t (x % 256) (Nat.mod_lt _ (by omega))).2
    show 256 * fby w2 n (x / 256) + w2 (x % 256) ≤ 72 * (256 * mk 1 n + 1)
    omega
theorem p8_le (y : Nat) : p8 y ≤ 8 := cnt_le 8
theorem cnt_add (S : Nat → Bool) : ∀ n m, cnt S (n + m) = cnt S n + cnt (fun j => S (n + j)) m
  | n, 0 => rfl
  | n, m + 1 => by
    show cnt S (n + m) + (S (n + m)).toNat = cnt S n + (cnt (fun j => S (n + j)) m + (S (n + m)).toNat)
    rw [cnt_add S n m]; omega
theorem p8_at (x k : Nat) : p8 (x / 2 ^ k % 256) = cnt (fun j => x.testBit (k + j)) 8 := by
  unfold p8
  refine cnt_eq 8 (fun j hj => ?_)
  rw [show 256 = 2 ^ 8 from rfl, Nat.testBit_mod_two_pow, ← Nat.shiftRight_eq_div_pow, Nat.testBit_shiftRight]
  simp [hj]
theorem bits64 (x : Nat) : p8 (x % 256) + p8 (x / 256 % 256) + p8 (x / 256 / 256 % 256) + p8 (x / 256 / 256 / 256 % 256) + p8 (x / 256 / 256 / 256 / 256 % 256) + p8 (x / 256 / 256 / 256 / 256 / 256 % 256) + p8 (x / 256 / 256 / 256 / 256 / 256 / 256 % 256) + p8 (x / 256 / 256 / 256 / 256 / 256 / 256 / 256 % 256) = cnt (fun j => x.testBit j) 64 := by
  simp only [Nat.div_div_eq_div_mul]
  rw [show 64 = 8 + (8 + (8 + (8 + (8 + (8 + (8 + 8)))))) from rfl, cnt_add, cnt_add, cnt_add, cnt_add, cnt_add, cnt_add, cnt_add]
  have h0 := p8_at x 0
  have h1 := p8_at x 8
  have h2 := p8_at x 16
  have h3 := p8_at x 24
  have h4 := p8_at x 32
  have h5 := p8_at x 40
  have h6 := p8_at x 48
  have h7 := p8_at x 56
  simp only [Nat.reducePow, Nat.reduceMul, Nat.div_one, Nat.zero_add] at h0 h1 h2 h3 h4 h5 h6 h7 ⊢
  rw [h0, h1, h2, h3, h4, h5, h6, h7]
  simp only [← Nat.add_assoc, Nat.reduceAdd]
theorem bitCount_c {S : Nat → Bool} (σ : St) : mJ13_bitCount_95d88 (bs S) σ = some (nI (cnt S 36), σ) := by
  unfold mJ13_bitCount_95d88
  simp only [kl_e]
  have u1 := NB_ushr (k := 1) (s := ((1 : Int32).toInt64.toUInt64 &&& Int64.toUInt64 63)) (hs := by decide) (hk := by omega)
  have u2 := NB_ushr (k := 2) (s := ((2 : Int32).toInt64.toUInt64 &&& Int64.toUInt64 63)) (hs := by decide) (hk := by omega)
  have u4 := NB_ushr (k := 4) (s := ((4 : Int32).toInt64.toUInt64 &&& Int64.toUInt64 63)) (hs := by decide) (hk := by omega)
  have u8 := NB_ushr (k := 8) (s := ((8 : Int32).toInt64.toUInt64 &&& Int64.toUInt64 63)) (hs := by decide) (hk := by omega)
  have u16 := NB_ushr (k := 16) (s := ((16 : Int32).toInt64.toUInt64 &&& Int64.toUInt64 63)) (hs := by decide) (hk := by omega)
  have u32 := NB_ushr (k := 32) (s := ((32 : Int32).toInt64.toUInt64 &&& Int64.toUInt64 63)) (hs := by decide) (hk := by omega)
  have hX := NB_lt (bs S)
  generalize hx : NB (bs S) = X at hX
  have m1 : NB (6148914691236517205 : Int64) = mk 0x55 8 := by decide +kernel
  have m2 : NB (3689348814741910323 : Int64) = mk 0x33 8 := by decide +kernel
  have m3 : NB (1085102592571150095 : Int64) = mk 0x0f 8 := by decide +kernel
  obtain ⟨i1, i2, i3⟩ := half_by 8 X (by simpa using hX)
  generalize hA : (bs S - (((bs S).toUInt64 >>> ((1 : Int32).toInt64.toUInt64 &&& Int64.toUInt64 63)).toInt64 &&& 6148914691236517205)) = A
  have nA : NB A = fby w1 8 X := by
    rw [← hA, NB_sub, NB_and, u1, hx, m1, show (2 ^ 1 : Nat) = 2 from rfl, i1, i3]
    rw [NB_and, u1, hx, m1, show (2 ^ 1 : Nat) = 2 from rfl, i1]; exact i2
  have t2 := two_by 8 X
  have l2 := fby_lt (f := w2) (fun y hy => (w3_t y hy).2.2.1) 8 X
  generalize hB : ((A &&& 3689348814741910323) + ((A.toUInt64 >>> ((2 : Int32).toInt64.toUInt64 &&& Int64.toUInt64 63)).toInt64 &&& 3689348814741910323)) = B
  have nB : NB B = fby w2 8 X := by
    rw [← hB, NB_add, NB_and, NB_and, u2, nA, m2, show (2 ^ 2 : Nat) = 4 from rfl, t2]
    rw [NB_and, NB_and, u2, nA, m2, show (2 ^ 2 : Nat) = 4 from rfl, t2]
    simpa using l2
  have t4 := four_by 8 X
  have b2 : fby w2 8 X + fby w2 8 X / 16 < 2 ^ 64 := by
    have := w2_hi 8 X
    rw [show 72 * mk 1 8 = 5208492444341520456 from by decide +kernel] at this
    exact sm1 this
  generalize hC : ((B + (B.toUInt64 >>> ((4 : Int32).toInt64.toUInt64 &&& Int64.toUInt64 63)).toInt64) &&& 1085102592571150095) = C
  have nC : NB C = fby w3 8 X := by
    rw [← hC, NB_and, NB_add, u4, nB, m3, show (2 ^ 4 : Nat) = 16 from rfl, t4]
    rw [u4, nB, show (2 ^ 4 : Nat) = 16 from rfl]; exact b2
  have hf : fby w3 8 X = fby p8 8 X := by
    rw [fby8, fby8]
    have q := fun y => (w3_t (y % 256) (Nat.mod_lt _ (by omega))).1
    rw [q, q, q, q, q, q, q, q]
  have nC2 := nC
  rw [hf, fby8] at nC2
  have hb := bits64 X
  obtain ⟨Y, Z, hY, hZ, hM, l1, l2', l3, l4⟩ := fold_by _ _ _ _ _ _ _ _ (NB C) ⟨p8_le _, p8_le _, p8_le _, p8_le _, p8_le _, p8_le _, p8_le _, p8_le _⟩ nC2
  generalize hD : C + (C.toUInt64 >>> ((8 : Int32).toInt64.toUInt64 &&& Int64.toUInt64 63)).toInt64 = D
  have nD : NB D = Y := by
    rw [← hD, NB_add, u8, ← hY]
    rw [u8]
    exact sm2 hY l1
  generalize hE : D + (D.toUInt64 >>> ((16 : Int32).toInt64.toUInt64 &&& Int64.toUInt64 63)).toInt64 = E
  have nE : NB E = Z := by
    rw [← hE, NB_add, u16, nD, ← hZ]
    rw [u16, nD]
    exact sm2 hZ l2'
  generalize hG : E + (E.toUInt64 >>> ((32 : Int32).toInt64.toUInt64 &&& Int64.toUInt64 63)).toInt64 = G'
  have nG : NB G' = Z + Z / 2 ^ 32 := by
    rw [← hG, NB_add, u32, nE]
    rw [u32, nE]
    exact sm3 l4
  rw [pk_and G'.toInt32 7 (by decide)]
  have e32 : G'.toInt32.toBitVec.toNat = NB G' % 2 ^ 32 := by
    show (G'.toBitVec.signExtend 32).toNat = _
    rw [BitVec.signExtend_eq_setWidth_of_le _ (by omega), BitVec.toNat_setWidth]
    rfl
  rw [e32, show (2 : Nat) ^ 7 = 128 from rfl]
  rw [sm4, nG, hM, hb]
  have hc : cnt (fun j => X.testBit j) 64 = cnt S 36 := by
    rw [show 64 = 36 + 28 from rfl, cnt_add]
    have hXj : ∀ j, X.testBit j = (decide (j < 36) && S j) := fun j => by rw [← hx, ← bt_NB, bt_bs]
    rw [cnt_eq (T := S) 36 (fun j hj => by rw [hXj]; simp [hj]), cnt_eq (T := fun _ => false) 28 (fun j hj => by rw [hXj, decide_eq_false (Nat.not_lt.2 (Nat.le_add_right 36 j)), Bool.false_and])]
    rfl
  rw [hc]
