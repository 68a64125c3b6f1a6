/-! ===== PURE: the loop over the statements ===== -/
def spN (b : Nat → Int32) : Nat → Nat
  | 0 => 0
  | k + 1 => spN b k + dkN (b (spN b k)) + 2
/-- what stands of the statements read so far -/
def LIs (b : Nat → Int32) (n : Nat) (τ : St) (r k : Nat) (bad : Bool) : Prop := bad = false → r = spN b k ∧ ∀ i, i < k → OkS b n (spN b i) ∧ gA τ 54 i = nI (spN b i) ∧ gA τ 55 i = b (spN b i) ∧ toldN b τ i (b (spN b i)) (spN b i + 1)
theorem spN_ge {b : Nat → Int32} {n : Nat} : ∀ k, (∀ i, i < k → OkS b n (spN b i)) → 3 * k ≤ spN b k
  | 0, _ => Nat.le_refl _
  | k + 1, h => by
    have h1 := spN_ge k (fun i hi => h i (by omega))
    have h2 := (h k (by omega)).1
    show 3 * (k + 1) ≤ spN b k + dkN (b (spN b k)) + 2
    omega
theorem toldN_c {b : Nat → Int32} {τ τ' : St} {i k p : Nat} {c : Int32} (hi : i < k) (h : ∀ i, i < 3 * k → gA τ' 56 i = gA τ 56 i) (g : toldN b τ i c p) : toldN b τ' i c p := by
  unfold toldN at g ⊢
  rw [h (3 * i) (by omega), h (3 * i + 1) (by omega), h (3 * i + 2) (by omega)]
  exact g
theorem readAll_m {d n : Nat} {b : Nat → Int32} {τ0 : St} (h0 : RSt d n b τ0 0 0 false) : ∃ τ r k bad, lp (fun _ => none) (mX11_land_57 (nI d)) 2000 τ0 = mX11_land_91 τ ∧ RSt d n b τ r k bad ∧ FRt τ0 τ ∧ GWt b n (cw b n 2000 (-1) 0) (-1) r bad ∧ LIs b n τ r k bad ∧ (bad = false → 0 < k ∧ r = n) := by
  have hd := h0.1.1
  have hn := h0.1.2.1
  refine lp_wf (α := St × Nat × Nat × Bool) (bot := fun (_ : St) => (none : Option (Int32 × St))) (app := fun x (J : St → Option (Int32 × St)) => J x.1) (m := fun x => if x.2.2.2 = true then 0 else 200 - x.2.1) (P := fun x => RSt d n b x.1 x.2.1 x.2.2.1 x.2.2.2 ∧ FRt τ0 x.1 ∧ GWt b n (cw b n 2000 (-1) 0) (-1) x.2.1 x.2.2.2 ∧ LIs b n x.1 x.2.1 x.2.2.1 x.2.2.2) (Q := fun o => ∃ τ r k bad, o = mX11_land_91 τ ∧ RSt d n b τ r k bad ∧ FRt τ0 τ ∧ GWt b n (cw b n 2000 (-1) 0) (-1) r bad ∧ LIs b n τ r k bad ∧ (bad = false → 0 < k ∧ r = n)) ?_ 2000 (τ0, 0, 0, false) ⟨h0, Fx_rfl, ⟨Nat.zero_le _, Or.inl ⟨rfl, 2000, rfl, rfl⟩⟩, fun _ => ⟨rfl, fun i hi => absurd hi (Nat.not_lt_zero _)⟩⟩ (by show (if false = true then 0 else 200 - 0) < 2000; decide)
  rintro ⟨τ, r, k, bad⟩ ⟨p1, p2, p3, p4⟩ J
  have p1 : RSt d n b τ r k bad := p1
  have p2 : FRt τ0 τ := p2
  have p3 : GWt b n (cw b n 2000 (-1) 0) (-1) r bad := p3
  have p4 : LIs b n τ r k bad := p4
  show (∃ τ' r k bad, mX11_land_57 (nI d) J τ = mX11_land_91 τ' ∧ _) ∨ ∃ x' : St × Nat × Nat × Bool, _ ∧ (if x'.2.2.2 = true then 0 else 200 - x'.2.1) < (if bad = true then 0 else 200 - r) ∧ mX11_land_57 (nI d) J τ = J x'.1
  cases bad
  · obtain ⟨q1, q2⟩ := p4 rfl
    have hr := p3.1
    have h3k := spN_ge k (fun i hi => (q2 i hi).1)
    have go : (r < n ∨ (n = 0 ∧ r = 0)) → mX11_land_57 (nI d) J τ = cl1 (mX11_readStatement τ) (fun s => J s) → ∃ x' : St × Nat × Nat × Bool, (RSt d n b x'.1 x'.2.1 x'.2.2.1 x'.2.2.2 ∧ FRt τ0 x'.1 ∧ GWt b n (cw b n 2000 (-1) 0) (-1) x'.2.1 x'.2.2.2 ∧ LIs b n x'.1 x'.2.1 x'.2.2.1 x'.2.2.2) ∧ (if x'.2.2.2 = true then 0 else 200 - x'.2.1) < (if false = true then 0 else 200 - r) ∧ mX11_land_57 (nI d) J τ = J x'.1 := by
      intro hrn e
      obtain ⟨τ', r', bad', s1, s2, s3, s4, s5, s6, s7, s8, s9⟩ := readSt_m (show k < 51 by omega) hrn p1
      refine ⟨(τ', r', k + 1, bad'), ⟨s2, Fx_tr p2 s4, s3 _ p3, fun w => ?_⟩, ?_, by rw [e, s1, cl1_e]⟩
      · have w : bad' = false := w
        obtain ⟨u1, u2, u3⟩ := s9 w
        have hlt : r < n := by have := u1.2.1; omega
        refine ⟨by show r' = spN b k + dkN (b (spN b k)) + 2; rw [← q1]; exact u2, fun i hi => ?_⟩
        have hi : i < k + 1 := hi
        show OkS b n (spN b i) ∧ gA τ' 54 i = nI (spN b i) ∧ gA τ' 55 i = b (spN b i) ∧ toldN b τ' i (b (spN b i)) (spN b i + 1)
        by_cases z : i = k
        · rw [z, ← q1]
          refine ⟨u1, s5, ?_, u3⟩
          rw [s6]; unfold hrN; rw [if_neg (by omega)]
        · obtain ⟨v1, v2, v3, v4⟩ := q2 i (by omega)
          exact ⟨v1, by rw [(s7 i z).1, v2], by rw [(s7 i z).2, v3], toldN_c (show i < k by omega) s8 v4⟩
      · show (if bad' = true then 0 else 200 - r') < (if false = true then 0 else 200 - r)
        rw [if_neg (show ¬ false = true by decide)]
        cases bad'
        · have := (s9 rfl).2.1
          rw [if_neg (show ¬ false = true by decide)]; omega
        · rw [if_pos rfl]; omega
    have e57 : mX11_land_57 (nI d) J τ = if nI k = 0 then cl1 (mX11_readStatement τ) (fun s => J s) else if nI n ≤ nI r then mX11_land_91 τ else cl1 (mX11_readStatement τ) (fun s => J s) := by
      unfold mX11_land_57 mX11_land_84
      rw [kl_e, p1.2.2.2.1, b2_f, kl_e, if_pos rfl, kl_e, p1.2.2.2.2, kl_e]
      rw [kl_e, p1.2.2.1, ldA_8 hd, p1.1.2.2.1]
    by_cases k0 : k = 0
    · right
      refine go ?_ (by rw [e57, if_pos (by rw [k0]; rfl)])
      have : r = 0 := by rw [q1, k0]; rfl
      omega
    · have kn : ¬ nI k = 0 := by rw [nI_eq0 (by omega)]; exact k0
      by_cases c : n ≤ r
      · left
        exact ⟨τ, r, k, false, by rw [e57, if_neg kn, if_pos (nI_le c (by omega))], p1, p2, p3, p4, fun _ => ⟨by omega, by omega⟩⟩
      · right
        exact go (Or.inl (by omega)) (by rw [e57, if_neg kn, if_neg (nI_ge (by omega) (by omega))])
  · left
    refine ⟨τ, r, k, true, ?_, p1, p2, p3, p4, fun q => by cases q⟩
    unfold mX11_land_57
    rw [kl_e, p1.2.2.2.1, b2_t, kl_e, if_neg n10]
