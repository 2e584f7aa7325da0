/-! numbers in range, on both sides -/
theorem in_spec (v lo hi : Int64) : fX9_in v lo hi = if lo.toInt ≤ v.toInt ∧ v.toInt ≤ hi.toInt then 1 else 0 := by
  unfold fX9_in
  by_cases h1 : v < lo
  · rw [if_pos ((lg_cmp_lt v lo).mpr h1), if_neg]
    have := Int64.lt_iff_toInt_lt.mp h1
    omega
  · rw [if_neg (fun h => h1 ((lg_cmp_lt v lo).mp h))]
    have a1 : lo.toInt ≤ v.toInt := Int.not_lt.mp (fun h => h1 (Int64.lt_iff_toInt_lt.mpr h))
    by_cases h2 : hi < v
    · rw [if_pos ((lg_cmp_gt v hi).mpr h2), if_neg]
      have := Int64.lt_iff_toInt_lt.mp h2
      omega
    · rw [if_neg (fun h => h2 ((lg_cmp_gt v hi).mp h)), if_pos]
      have a2 : v.toInt ≤ hi.toInt := Int.not_lt.mp (fun h => h2 (Int64.lt_iff_toInt_lt.mpr h))
      exact ⟨a1, a2⟩
theorem t64 (x : Int32) : x.toInt64.toInt = x.toInt := Int32.toInt_toInt64 x
theorem below_spec (a b : Int32) : fX8_isBelow a b = if 0 ≤ a.toInt ∧ a.toInt < b.toInt then 1 else 0 := by
  unfold fX8_isBelow
  have z : (0 : Int32).toInt = 0 := by decide
  by_cases h1 : a < 0
  · have := Int32.lt_iff_toInt_lt.mp h1
    rw [if_pos h1, if_neg (by omega)]
  · have a1 := Int.not_lt.mp (fun h => h1 (Int32.lt_iff_toInt_lt.mpr h))
    by_cases h2 : b ≤ a
    · have := Int32.le_iff_toInt_le.mp h2
      rw [if_neg h1, if_pos h2, if_neg (by omega)]
    · have := Int.not_le.mp (fun h => h2 (Int32.le_iff_toInt_le.mpr h))
      rw [if_neg h1, if_neg h2, if_pos (by omega)]
theorem rng_c (p : Int32) {N : Nat} (hN : N < 2 ^ 31) : (∃ k, k < N ∧ p = nI k) ∨ (p.toInt < 0 ∨ (N : Int) ≤ p.toInt) := by
  have z : (0 : Int32).toInt = 0 := by decide
  rcases pk_ix p hN with h | h | h
  · have := Int32.lt_iff_toInt_lt.mp h
    exact Or.inr (Or.inl (by omega))
  · have := Int32.le_iff_toInt_le.mp h
    rw [nI_toInt hN] at this
    exact Or.inr (Or.inr this)
  · exact Or.inl h
theorem below_nI {k N : Nat} (hN : N < 2 ^ 31) (h : k < N) : fX8_isBelow (nI k) (nI N) = 1 := by
  rw [below_spec, nI_toInt (by omega), nI_toInt hN, if_pos (by omega)]
theorem below_no {p : Int32} {N : Nat} (hN : N < 2 ^ 31) (h : p.toInt < 0 ∨ (N : Int) ≤ p.toInt) : fX8_isBelow p (nI N) = 0 := by
  rw [below_spec, nI_toInt hN, if_neg (by omega)]
theorem in_nI {k : Nat} {hi : Int64} {N : Nat} (hhi : hi.toInt = (N : Int) - 1) (hN : N < 2 ^ 31) (h : k < N) : fX9_in (nI k).toInt64 0 hi = 1 := by
  have z : (0 : Int64).toInt = 0 := by decide
  rw [in_spec, t64, nI_toInt (by omega), z, hhi, if_pos (by omega)]
theorem in_no {p : Int32} {hi : Int64} {N : Nat} (hhi : hi.toInt = (N : Int) - 1) (h : p.toInt < 0 ∨ (N : Int) ≤ p.toInt) : fX9_in p.toInt64 0 hi = 0 := by
  have z : (0 : Int64).toInt = 0 := by decide
  rw [in_spec, t64, z, hhi, if_neg (by omega)]
theorem l1 {n : Nat} (h : n < 2 ^ 31) : ((nI n).toInt64 - 1).toInt = (n : Int) - 1 := by
  rw [nI_l h]
  rcases Nat.eq_zero_or_pos n with e | e
  · subst e; decide
  · rw [show (1 : Int64) = lN 1 from rfl, lN_sub e, lN_toInt (by omega)]
    omega
theorem lot_c (p : Int32) : (∃ k, k < 4 ∧ p = nI k ∧ fX9_noLot p = 0 ∧ fX8_isLot p = 1) ∨ (fX9_noLot p = 1 ∧ fX8_isLot p = 0) := by
  unfold fX9_noLot fX8_isLot
  rcases rng_c p (N := 4) (by decide) with ⟨k, hk, rfl⟩ | h
  · refine Or.inl ⟨k, hk, rfl, ?_, below_nI (N := 4) (by decide) hk⟩
    rw [in_nI (N := 4) (by decide) (by decide) hk, if_neg (by decide)]
  · refine Or.inr ⟨?_, below_no (N := 4) (by decide) h⟩
    rw [in_no (N := 4) (by decide) h, if_pos rfl]
theorem lane_c (p : Int32) : (∃ k, k < 3 ∧ p = nI k ∧ fX9_in p.toInt64 0 2 = 1 ∧ fX8_isBelow p 3 = 1) ∨ (fX9_in p.toInt64 0 2 = 0 ∧ fX8_isBelow p 3 = 0) := by
  rcases rng_c p (N := 3) (by decide) with ⟨k, hk, rfl⟩ | h
  · exact Or.inl ⟨k, hk, rfl, in_nI (N := 3) (by decide) (by decide) hk, below_nI (N := 3) (by decide) hk⟩
  · exact Or.inr ⟨in_no (N := 3) (by decide) h, below_no (N := 3) (by decide) h⟩
theorem sheet_c (p : Int32) : (∃ k, k < 4 ∧ p = nI k ∧ fX9_noSheet p = 0 ∧ fX8_sheetOf p = some k) ∨ (fX9_noSheet p = 1 ∧ fX8_sheetOf p = none) := by
  unfold fX9_noSheet fX8_sheetOf
  rcases rng_c p (N := 4) (by decide) with ⟨k, hk, rfl⟩ | h
  · refine Or.inl ⟨k, hk, rfl, ?_, ?_⟩
    · rw [in_nI (N := 4) (by decide) (by decide) hk, if_neg (by decide)]
    · rw [show (4 : Int32) = nI 4 from rfl, below_nI (by decide) hk, if_neg (by decide), nI_clamp (by omega)]
  · refine Or.inr ⟨?_, ?_⟩
    · rw [in_no (N := 4) (by decide) h, if_pos rfl]
    · rw [show (4 : Int32) = nI 4 from rfl, below_no (by decide) h, if_pos rfl]
theorem buy_c {n : Nat} (hn : n ≤ 6) (p : Int32) {M : MS} (hM : M 3 0 = nI n) : (∃ k, k < n ∧ p = nI k ∧ fX9_noBuyer p M = 0 ∧ fX5_buyerOf n p = some k) ∨ (fX9_noBuyer p M = 1 ∧ fX5_buyerOf n p = none) := by
  unfold fX9_noBuyer fX5_buyerOf
  rw [hM]
  rcases rng_c p (N := n) (by omega) with ⟨k, hk, rfl⟩ | h
  · refine Or.inl ⟨k, hk, rfl, ?_, ?_⟩
    · rw [in_nI (l1 (by omega)) (by omega) hk, if_neg (by decide)]
    · rw [below_nI (by omega) hk, if_neg (by decide), if_neg, nI_clamp (by omega)]
      rw [show (6 : Int32) = nI 6 from rfl]
      exact nI_ge (by omega) (by omega)
  · refine Or.inr ⟨?_, ?_⟩
    · rw [in_no (l1 (by omega)) h, if_pos rfl]
    · rw [below_no (by omega) h, if_pos rfl]
theorem v99_c (p : Int32) : (∃ k, k ≤ 99 ∧ p = nI k ∧ fX9_in p.toInt64 0 99 = 1 ∧ ¬ p < 0 ∧ p ≤ 99) ∨ (fX9_in p.toInt64 0 99 = 0 ∧ (p < 0 ∨ ¬ p ≤ 99)) := by
  have z : (0 : Int32).toInt = 0 := by decide
  have z9 : (99 : Int32).toInt = 99 := by decide
  rcases rng_c p (N := 100) (by decide) with ⟨k, hk, rfl⟩ | h
  · refine Or.inl ⟨k, by omega, rfl, in_nI (N := 100) (by decide) (by decide) hk, nI_pos (by omega), ?_⟩
    rw [Int32.le_iff_toInt_le, nI_toInt (by omega), z9]
    omega
  · refine Or.inr ⟨in_no (N := 100) (by decide) h, ?_⟩
    rcases h with h | h
    · exact Or.inl (Int32.lt_iff_toInt_lt.mpr (by omega))
    · refine Or.inr (fun q => ?_)
      have := Int32.le_iff_toInt_le.mp q
      omega
theorem gd2 {α : Type} {i : Int32} {j n : Nat} (hi : i = nI j) (h : j < n) (hn : n < 2 ^ 31) (a : Option α) : gd i n a = a := by subst hi; exact gd_nI h hn a
theorem cl2 {i : Int32} {j : Nat} (hi : i = nI j) (h : j < 2 ^ 31) : i.toNatClampNeg = j := by subst hi; exact nI_clamp h
/-! the state that both sides tell: h; what of the two objects it fixes -/
def bitS (x : Int32) (s : Nat) : Bool := x.toBitVec.getLsbD s
def shI (S M : MS) : Prop := ∀ k, k < 4 → (M 27 k = -1 ∧ S (1 + k) 0 = -1 ∧ S (1 + k) 1 = 0) ∨ (∃ len lane : Nat, len ≤ 60 ∧ lane < 3 ∧ M 27 k = nI len ∧ M 28 k = nI lane ∧ S (1 + k) 0 = nI lane ∧ S (1 + k) 1 = nI len ∧ ∀ i, i < len → S (5 + k) i = M 29 (60 * k + i))
def hOK (n : Nat) (h : Nat → Nat → Nat) : Prop :=
  (n = 0 ∧ h 0 0 = 0 ∧ h 0 1 = 0 ∧ h 0 2 = 0 ∧ h 0 3 = 0) ∨
  ((2 ≤ n ∧ n ≤ 6 ∧ n ≤ h 0 0 * h 0 1) ∧ (1 ≤ h 0 0 ∧ h 0 0 ≤ 4 ∧ 2 ≤ h 0 1 ∧ h 0 1 ≤ 6 ∧ h 0 2 < 3 ∧ h 0 3 ≤ 6) ∧
    (∀ b, b < n → h 1 b < 3 ∧ h 2 b ≤ 99 ∧ h 3 b < h 0 0 * h 0 1) ∧ (∀ b c, b < n → c < n → h 3 b = h 3 c → b = c) ∧
    (∀ b lot, b < n → lot < 4 → h 4 (4 * b + lot) ≤ 99) ∧ (∀ r, r < h 0 3 → h 5 r < 4 ∧ h 6 r ≤ 99))
def rM (n : Nat) (h : Nat → Nat → Nat) (M : MS) : Prop :=
  (M 1 0 = nI (h 0 0) ∧ M 2 0 = nI (h 0 1) ∧ M 3 0 = nI n ∧ M 8 0 = nI (h 0 2) ∧ M 24 0 = nI (h 0 3)) ∧
  (∀ b, b < n → M 4 b = nI (h 1 b) ∧ M 5 b = nI (h 2 b) ∧ M 6 b = nI (h 3 b)) ∧
  (∀ b lot, b < n → lot < 4 → M 7 (4 * b + lot) = nI (h 4 (4 * b + lot))) ∧
  (∀ r, r < h 0 3 → M 25 r = nI (h 5 r) ∧ M 26 r = nI (h 6 r))
def rC (n : Nat) (h : Nat → Nat → Nat) (S : MS) : Prop :=
  (S 10 1 = nI (h 0 0 * h 0 1) ∧ S 10 2 = nI (h 0 1) ∧ S 10 3 = nI (h 0 2) ∧ S 17 0 = nI (h 0 3)) ∧
  (∀ b, b < n → S 20 b = nI (h 1 b) ∧ S 21 b = nI (h 2 b) ∧ S 22 b = nI (h 3 b)) ∧
  (∀ b lot, b < n → lot < 4 → S 23 (6 * lot + b) = nI (h 4 (4 * b + lot))) ∧
  (∀ r, r < h 0 3 → S 18 r = nI (h 5 r) ∧ S 19 r = nI (h 6 r)) ∧
  (2 ≤ n → ∀ s, s < h 0 0 * h 0 1 → bitS (S 10 4) s = decide (s % h 0 1 < h 0 1 / 2) ∧ bitS (S 10 5) s = decide (s % h 0 1 = h 0 1 - 1))
def Inv (n : Nat) (S M : MS) : Prop := S 0 0 = M 0 0 ∧ S 9 0 = M 31 0 ∧ shI S M ∧ ∃ h, hOK n h ∧ rM n h M ∧ rC n h S
theorem hOK.le6 {n : Nat} {h : Nat → Nat → Nat} (k : hOK n h) : n ≤ 6 := by
  rcases k with k | k
  · omega
  · exact k.1.2.1
theorem inv_0 : Inv 0 S0 M0 := by
  refine ⟨rfl, rfl, fun k hk => ?_, fun _ _ => 0, Or.inl ⟨rfl, rfl, rfl, rfl, rfl⟩, ⟨⟨rfl, rfl, rfl, rfl, rfl⟩, fun b hb => absurd hb (Nat.not_lt_zero _), fun b _ hb => absurd hb (Nat.not_lt_zero _), fun b hb => absurd hb (Nat.not_lt_zero _)⟩, ⟨⟨rfl, rfl, rfl, rfl⟩, fun b hb => absurd hb (Nat.not_lt_zero _), fun b _ hb => absurd hb (Nat.not_lt_zero _), fun b hb => absurd hb (Nat.not_lt_zero _), fun h => absurd h (by decide)⟩⟩
  match k, hk with
  | 0, _ => exact Or.inl ⟨rfl, rfl, rfl⟩
  | 1, _ => exact Or.inl ⟨rfl, rfl, rfl⟩
  | 2, _ => exact Or.inl ⟨rfl, rfl, rfl⟩
  | 3, _ => exact Or.inl ⟨rfl, rfl, rfl⟩
/-- the comps that the invariant speaks of stay -/
def eqC (S S' : MS) : Prop := (∀ k, k ≤ 10 → S' k = S k) ∧ (∀ k, 17 ≤ k → k ≤ 23 → S' k = S k)
def eqM (M M' : MS) : Prop := (∀ k, k ≤ 8 → M' k = M k) ∧ (∀ k, 24 ≤ k → k ≤ 31 → k ≠ 30 → M' k = M k)
theorem Inv.keep {n : Nat} {S M S' M' : MS} (h : Inv n S M) (hS : eqC S S') (hM : eqM M M') : Inv n S' M' := by
  obtain ⟨h1, h2, h3, g, k1, k2, k3⟩ := h
  obtain ⟨a1, a2⟩ := hS
  obtain ⟨b1, b2⟩ := hM
  refine ⟨by rw [a1 0 (by decide), b1 0 (by decide)]; exact h1, by rw [a1 9 (by decide), b2 31 (by decide) (by decide) (by decide)]; exact h2, fun k hk => ?_, g, k1, ?_, ?_⟩
  · have := h3 k hk
    rw [a1 (1 + k) (by omega), a1 (5 + k) (by omega), b2 27 (by decide) (by decide) (by decide), b2 28 (by decide) (by decide) (by decide), b2 29 (by decide) (by decide) (by decide)]
    exact this
  · unfold rM at k2 ⊢
    rw [b1 1 (by decide), b1 2 (by decide), b1 3 (by decide), b1 8 (by decide), b1 4 (by decide), b1 5 (by decide), b1 6 (by decide), b1 7 (by decide), b2 24 (by decide) (by decide) (by decide), b2 25 (by decide) (by decide) (by decide), b2 26 (by decide) (by decide) (by decide)]
    exact k2
  · unfold rC at k3 ⊢
    rw [a1 10 (by decide), a2 17 (by decide) (by decide), a2 18 (by decide) (by decide), a2 19 (by decide) (by decide), a2 20 (by decide) (by decide), a2 21 (by decide) (by decide), a2 22 (by decide) (by decide), a2 23 (by decide) (by decide)]
    exact k3
theorem u2_at (M : MS) (k i : Nat) (x : Int32) : u2 M k i x k = upd (M k) i x := by
  show (bif Nat.beq k k then _ else _) = _
  rw [Nat.beq_refl]; rfl
theorem u2_ne (M : MS) {k j : Nat} (i : Nat) (x : Int32) (h : j ≠ k) : u2 M k i x j = M j := by
  show (bif Nat.beq j k then _ else _) = _
  have hb : Nat.beq j k = false := by
    cases hb : Nat.beq j k with
    | false => rfl
    | true => exact absurd (Nat.eq_of_beq_eq_true hb) h
  rw [hb]; rfl
