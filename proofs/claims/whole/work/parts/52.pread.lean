/-! the readings: what the clerk has, what agrees -/
def hsB (h : Nat → Nat → Nat) (m lo : Nat) : Bool := (List.range m).any fun r => h 5 r == lo
def agB (h : Nat → Nat → Nat) (m lo p : Nat) : Bool := (List.range m).all fun r => !(h 5 r == lo) || (h 6 r == p)
theorem hsB_iff {h : Nat → Nat → Nat} {m lo : Nat} : hsB h m lo = true ↔ ∃ r, r < m ∧ h 5 r = lo := by
  unfold hsB
  rw [List.any_eq_true]
  constructor
  · rintro ⟨r, hr, e⟩
    exact ⟨r, List.mem_range.mp hr, by simpa using e⟩
  · rintro ⟨r, hr, e⟩
    exact ⟨r, List.mem_range.mpr hr, by simpa using e⟩
theorem agB_iff {h : Nat → Nat → Nat} {m lo p : Nat} : agB h m lo p = true ↔ ∀ r, r < m → h 5 r = lo → h 6 r = p := by
  unfold agB
  rw [List.all_eq_true]
  constructor
  · intro w r hr e
    have := w r (List.mem_range.mpr hr)
    simpa [e] using this
  · intro w r hr
    have := w r (List.mem_range.mp hr)
    by_cases e : h 5 r = lo
    · simp [e, this e]
    · simp [e]
theorem has_l {n m lo : Nat} {h : Nat → Nat → Nat} {S : MS} (hm : m ≤ 6) (h17 : S 17 0 = nI m) (hr : ∀ r, r < m → S 18 r = nI (h 5 r) ∧ h 5 r < 4) (hlo : lo < 2 ^ 31) :
    ∀ d i fu, i + d = m → d < fu → (∀ r, r < i → h 5 r ≠ lo) → fX2_hasOf_2 n fu (fun (_ : Unit) => (some 0)) (nI lo) (nI i) S = some (if hsB h m lo = true then 1 else 0) := by
  intro d
  induction d with
  | zero =>
    intro i fu hi hf hno
    obtain ⟨f, rfl⟩ : ∃ f, fu = f + 1 := ⟨fu - 1, by omega⟩
    rw [fX2_hasOf_2, h17, if_pos (nI_le (by omega) (by omega)), if_neg (fun w => by
      obtain ⟨r, hr1, e⟩ := hsB_iff.mp w
      exact hno r (by omega) e)]
  | succ d ih =>
    intro i fu hi hf hno
    obtain ⟨f, rfl⟩ : ∃ f, fu = f + 1 := ⟨fu - 1, by omega⟩
    have him : i < m := by omega
    rw [fX2_hasOf_2, h17, if_neg (nI_ge him (by omega)), if_neg (show ¬ (6 : Int32) ≤ nI i from nI_ge (b := 6) (by omega) (by decide)), gd_nI (show i < 6 by omega) (by decide), nI_clamp (show i < 2 ^ 31 by omega), (hr i him).1, nI_1]
    have h4 := (hr i him).2
    by_cases e : h 5 i = lo
    · rw [if_pos (by rw [e]), if_pos (hsB_iff.mpr ⟨i, him, e⟩)]
    · rw [if_neg (fun w => e ((nI_eq (by omega) hlo).mp w))]
      exact ih (i + 1) f (by omega) (by omega) (fun r hr1 => by
        rcases Nat.lt_or_ge r i with q | q
        · exact hno r q
        · rw [show r = i by omega]; exact e)
theorem agr_l {n m lo p : Nat} {h : Nat → Nat → Nat} {S : MS} (hm : m ≤ 6) (h17 : S 17 0 = nI m) (hr : ∀ r, r < m → S 18 r = nI (h 5 r) ∧ h 5 r < 4 ∧ S 19 r = nI (h 6 r) ∧ h 6 r ≤ 99) (hlo : lo < 2 ^ 31) (hp : p < 2 ^ 31) :
    ∀ d i fu, i + d = m → d < fu → (∀ r, r < i → h 5 r = lo → h 6 r = p) → fX2_agrees_2 n fu (fun (_ : Unit) => (some 1)) (nI lo) (nI p) (nI i) S = some (if agB h m lo p = true then 1 else 0) := by
  intro d
  induction d with
  | zero =>
    intro i fu hi hf hno
    obtain ⟨f, rfl⟩ : ∃ f, fu = f + 1 := ⟨fu - 1, by omega⟩
    rw [fX2_agrees_2, h17, if_pos (nI_le (by omega) (by omega)), if_pos (agB_iff.mpr (fun r hr1 e => hno r (by omega) e))]
  | succ d ih =>
    intro i fu hi hf hno
    obtain ⟨f, rfl⟩ : ∃ f, fu = f + 1 := ⟨fu - 1, by omega⟩
    have him : i < m := by omega
    obtain ⟨r1, r2, r3, r4⟩ := hr i him
    rw [fX2_agrees_2, h17, if_neg (nI_ge him (by omega)), if_neg (show ¬ (6 : Int32) ≤ nI i from nI_ge (b := 6) (by omega) (by decide)), gd_nI (show i < 6 by omega) (by decide), nI_clamp (show i < 2 ^ 31 by omega), r1, nI_1, gd_nI (show i < 6 by omega) (by decide), r3]
    by_cases e : h 5 i = lo
    · rw [if_pos (by rw [e])]
      by_cases e2 : h 6 i = p
      · rw [if_pos (by rw [e2])]
        exact ih (i + 1) f (by omega) (by omega) (fun r hr1 q0 => by
          rcases Nat.lt_or_ge r i with q | q
          · exact hno r q q0
          · rw [show r = i by omega]; exact e2)
      · rw [if_neg (fun w => e2 ((nI_eq (by omega) hp).mp w)), if_neg (fun w => e2 (agB_iff.mp w i him e))]
    · rw [if_neg (fun w => e ((nI_eq (by omega) hlo).mp w))]
      exact ih (i + 1) f (by omega) (by omega) (fun r hr1 q0 => by
        rcases Nat.lt_or_ge r i with q | q
        · exact hno r q q0
        · exfalso
          rw [show r = i by omega] at q0
          exact e q0)
theorem has_s {n lo : Nat} {h : Nat → Nat → Nat} {S : MS} (k1 : hOK n h) (k3 : rC n h S) (h2n : 2 ≤ n) (hlo : lo < 4) : fX2_hasOf n (nI lo) S = some (if hsB h (h 0 3) lo = true then 1 else 0) := by
  have c := k1.big h2n
  have hm := c.2.1.2.2.2.2.2
  exact has_l hm k3.1.2.2.2 (fun r hr => ⟨(k3.2.2.2.1 r hr).1, (c.2.2.2.2.2 r hr).1⟩) (by omega) (h 0 3) 0 300 (by omega) (by omega) (fun r hr => absurd hr (Nat.not_lt_zero r))
theorem agr_s {n lo p : Nat} {h : Nat → Nat → Nat} {S : MS} (k1 : hOK n h) (k3 : rC n h S) (h2n : 2 ≤ n) (hlo : lo < 4) (hp : p ≤ 99) : fX2_agrees n (nI lo) (nI p) S = some (if agB h (h 0 3) lo p = true then 1 else 0) := by
  have c := k1.big h2n
  have hm := c.2.1.2.2.2.2.2
  exact agr_l hm k3.1.2.2.2 (fun r hr => ⟨(k3.2.2.2.1 r hr).1, (c.2.2.2.2.2 r hr).1, (k3.2.2.2.1 r hr).2, (c.2.2.2.2.2 r hr).2⟩) (by omega) (by omega) (h 0 3) 0 300 (by omega) (by omega) (fun r hr => absurd hr (Nat.not_lt_zero r))
