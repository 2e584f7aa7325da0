/-! a ring -/
def hd (rg : Nat → Bool) (lm : Nat → Nat) : Nat → Option Nat
  | 0 => none
  | i + 1 => match hd rg lm i with
    | none => if rg i then some i else none
    | some c => if rg i && decide (lm c < lm i) then some i else some c
theorem hd_no {rg : Nat → Bool} {lm : Nat → Nat} {i : Nat} (h : rg i = false) : hd rg lm (i + 1) = hd rg lm i := by
  rw [hd]
  cases hd rg lm i with
  | none => simp [h]
  | some c => simp [h]
theorem hd_y0 {rg : Nat → Bool} {lm : Nat → Nat} {i : Nat} (h : rg i = true) (hn : hd rg lm i = none) : hd rg lm (i + 1) = some i := by
  rw [hd, hn]; simp [h]
theorem hd_y1 {rg : Nat → Bool} {lm : Nat → Nat} {i c : Nat} (h : rg i = true) (hn : hd rg lm i = some c) : hd rg lm (i + 1) = if lm c < lm i then some i else some c := by
  rw [hd, hn]; simp [h]
theorem hd_lt {rg : Nat → Bool} {lm : Nat → Nat} : ∀ {i c : Nat}, hd rg lm i = some c → c < i ∧ rg c = true := by
  intro i
  induction i with
  | zero => intro c h; cases h
  | succ i ih =>
    intro c h
    cases hr : rg i with
    | false =>
      rw [hd_no hr] at h
      have := ih h
      exact ⟨by omega, this.2⟩
    | true =>
      cases hq : hd rg lm i with
      | none => rw [hd_y0 hr hq] at h; cases h; exact ⟨by omega, hr⟩
      | some d =>
        rw [hd_y1 hr hq] at h
        by_cases e : lm d < lm i
        · rw [if_pos e] at h; cases h; exact ⟨by omega, hr⟩
        · rw [if_neg e] at h; cases h
          have := ih hq
          exact ⟨by omega, this.2⟩
theorem hd_none {rg : Nat → Bool} {lm : Nat → Nat} : ∀ {i : Nat}, hd rg lm i = none → ∀ b, b < i → rg b = false := by
  intro i
  induction i with
  | zero => intro _ b hb; omega
  | succ i ih =>
    intro h b hb
    cases hr : rg i with
    | false =>
      rw [hd_no hr] at h
      rcases Nat.lt_or_ge b i with q | q
      · exact ih h b q
      · rw [show b = i by omega]; exact hr
    | true =>
      exfalso
      cases hq : hd rg lm i with
      | none => rw [hd_y0 hr hq] at h; cases h
      | some d =>
        rw [hd_y1 hr hq] at h
        split at h <;> cases h
theorem hd_ext {rg : Nat → Bool} {lm : Nat → Nat} {n : Nat} : ∀ d, (∀ b, n ≤ b → b < n + d → rg b = false) → hd rg lm (n + d) = hd rg lm n := by
  intro d
  induction d with
  | zero => intro _; rfl
  | succ d ih =>
    intro h
    show hd rg lm (n + d + 1) = _
    rw [hd_no (h (n + d) (by omega) (by omega))]
    exact ih (fun b h1 h2 => h b h1 (by omega))
theorem ring5_l {n : Nat} {p : Int32} {S : MS} {rg : Nat → Bool} {lm : Nat → Nat} {k : Int32 → MS → Option MS} (hr : ∀ b, b < 6 → bitS p b = rg b) (hl : ∀ b, b < 6 → rg b = true → S 14 b = nI (lm b) ∧ lm b ≤ 99) :
    ∀ d i fu, i + d = 6 → d < fu → fX0_silenceAllButFirst_5 n fu k p (encN (hd rg lm i)) (nI i) S = k (encN (hd rg lm 6)) S := by
  intro d
  induction d with
  | zero =>
    intro i fu hi hf
    obtain ⟨f, rfl⟩ : ∃ f, fu = f + 1 := ⟨fu - 1, by omega⟩
    rw [fX0_silenceAllButFirst_5, if_pos (show (6 : Int32) ≤ nI i from nI_le (a := 6) (by omega) (by omega)), show i = 6 by omega]
  | succ d ih =>
    intro i fu hi hf
    obtain ⟨f, rfl⟩ : ∃ f, fu = f + 1 := ⟨fu - 1, by omega⟩
    have hi6 : i < 6 := by omega
    have ih1 := ih (i + 1) f (by omega) (by omega)
    rw [fX0_silenceAllButFirst_5, if_neg (show ¬ (6 : Int32) ≤ nI i from nI_ge (b := 6) (by omega) (by decide)), q_in (show i < 32 by omega), hr i hi6, nI_1]
    cases hg : rg i with
    | false =>
      rw [hd_no hg] at ih1
      rw [if_pos (show (if false = true then (1 : Int32) else 0) = 0 from rfl)]
      exact ih1
    | true =>
      rw [if_neg (show ¬ (if true = true then (1 : Int32) else 0) = 0 by decide)]
      cases hq : hd rg lm i with
      | none =>
        rw [hd_y0 hg hq] at ih1
        rw [show encN none = -9 from rfl, if_pos rfl]
        exact ih1
      | some c =>
        have hc := hd_lt hq
        rw [hd_y1 hg hq] at ih1
        have l1 := hl i hi6 hg
        have l2 := hl c (by omega) hc.2
        rw [show encN (some c) = nI c from rfl, if_neg (m9_ne (by omega)), gd_nI hi6 (by decide), gd_nI (show c < 6 by omega) (by decide), nI_clamp (show i < 2 ^ 31 by omega), nI_clamp (show c < 2 ^ 31 by omega), l1.1, l2.1]
        by_cases e : lm c < lm i
        · rw [if_pos e] at ih1
          rw [if_neg (nI_ge e (by omega))]
          exact ih1
        · rw [if_neg e] at ih1
          rw [if_pos (nI_le (by omega) (by omega))]
          exact ih1
theorem ring50_l {n : Nat} {p : Int32} {rg : Nat → Bool} {o : Option Nat} {k : MS → Option MS} (hr : ∀ b, b < 6 → bitS p b = rg b) (ho : ∀ c, o = some c → c < 6) :
    ∀ d i fu (S : MS), i + d = 6 → d < fu → ∃ S', fX0_silenceAllButFirst_50 n fu k p (encN o) (nI i) S = k S' ∧ (∀ j, j ≠ 14 → S' j = S j) ∧ ∀ b, S' 14 b = if i ≤ b ∧ b < 6 ∧ rg b = true ∧ o ≠ some b then 0 else S 14 b := by
  intro d
  induction d with
  | zero =>
    intro i fu S hi hf
    obtain ⟨f, rfl⟩ : ∃ f, fu = f + 1 := ⟨fu - 1, by omega⟩
    refine ⟨S, ?_, fun _ _ => rfl, fun b => ?_⟩
    · rw [fX0_silenceAllButFirst_50, if_pos (show (6 : Int32) ≤ nI i from nI_le (a := 6) (by omega) (by omega))]
    · rw [if_neg (by omega)]
  | succ d ih =>
    intro i fu S hi hf
    obtain ⟨f, rfl⟩ : ∃ f, fu = f + 1 := ⟨fu - 1, by omega⟩
    have hi6 : i < 6 := by omega
    have fin : ∀ S1 : MS, (∀ j, j ≠ 14 → S1 j = S j) → (∀ b, S1 14 b = if b = i ∧ rg i = true ∧ o ≠ some i then 0 else S 14 b) → ∃ S', fX0_silenceAllButFirst_50 n f k p (encN o) (nI (i + 1)) S1 = k S' ∧ (∀ j, j ≠ 14 → S' j = S j) ∧ ∀ b, S' 14 b = if i ≤ b ∧ b < 6 ∧ rg b = true ∧ o ≠ some b then 0 else S 14 b := by
      intro S1 a1 a2
      obtain ⟨S', w1, w2, w3⟩ := ih (i + 1) f S1 (by omega) (by omega)
      refine ⟨S', w1, fun j hj => (w2 j hj).trans (a1 j hj), fun b => ?_⟩
      rw [w3 b, a2 b]
      by_cases e : b = i
      · subst e
        rw [if_neg (show ¬ (b + 1 ≤ b ∧ b < 6 ∧ rg b = true ∧ o ≠ some b) by omega)]
        by_cases e2 : rg b = true ∧ o ≠ some b
        · rw [if_pos ⟨rfl, e2⟩, if_pos ⟨by omega, hi6, e2⟩]
        · rw [if_neg (fun w => e2 w.2), if_neg (fun w => e2 w.2.2)]
      · rw [if_neg (show ¬ (b = i ∧ rg i = true ∧ o ≠ some i) from fun w => e w.1)]
        by_cases e2 : i ≤ b ∧ b < 6 ∧ rg b = true ∧ o ≠ some b
        · rw [if_pos e2, if_pos ⟨by omega, e2.2⟩]
        · rw [if_neg e2, if_neg (fun w => e2 ⟨by omega, w.2⟩)]
    rw [fX0_silenceAllButFirst_50, if_neg (show ¬ (6 : Int32) ≤ nI i from nI_ge (b := 6) (by omega) (by decide)), q_in (show i < 32 by omega), hr i hi6, nI_1]
    cases hg : rg i with
    | false =>
      rw [if_pos (show (if false = true then (1 : Int32) else 0) = 0 from rfl)]
      exact fin S (fun _ _ => rfl) (fun b => by rw [hg, if_neg (fun w => by cases w.2.1)])
    | true =>
      rw [if_neg (show ¬ (if true = true then (1 : Int32) else 0) = 0 by decide)]
      by_cases eo : o = some i
      · rw [eo, show encN (some i) = nI i from rfl, if_pos rfl]
        have := fin S (fun _ _ => rfl) (fun b => by rw [if_neg (fun w => w.2.2 eo)])
        rw [eo] at this
        exact this
      · have hne : ¬ nI i = encN o := fun w => by
          cases hq : o with
          | none => rw [hq] at w; exact m9_ne (by omega) w
          | some c =>
            rw [hq] at w
            have hc := ho c hq
            exact eo (by rw [hq, (nI_eq (by omega) (by omega)).mp w])
        rw [if_neg hne, gd_nI hi6 (by decide), nI_clamp (show i < 2 ^ 31 by omega)]
        refine fin _ (fun j hj => u2_ne _ _ _ hj) (fun b => ?_)
        show upd (S 14) i 0 b = _
        by_cases e : b = i
        · rw [e, upd_at, if_pos ⟨rfl, hg, eo⟩]
        · rw [upd_ne _ _ e, if_neg (fun w => e w.1)]
theorem ring42_l {n lo : Nat} {p : Int32} {M : MS} {rg : Nat → Bool} {lm : Nat → Nat} {k : Int32 → MS → Option (Int32 × MS)} (hn : n ≤ 6) (h3 : M 3 0 = nI n) (hr : ∀ b, b < n → bitS p b = rg b) (hl : ∀ b, b < n → fX9_limitOf (nI b) (nI lo) M = some (nI (lm b)) ∧ lm b ≤ 99) :
    ∀ d i fu, i + d = n → d < fu → fX9_ring_42 fu k p (nI lo) (encN (hd rg lm i)) (nI i) M = k (encN (hd rg lm n)) M := by
  intro d
  induction d with
  | zero =>
    intro i fu hi hf
    obtain ⟨f, rfl⟩ : ∃ f, fu = f + 1 := ⟨fu - 1, by omega⟩
    rw [fX9_ring_42, h3, if_pos (nI_le (by omega) (by omega)), show i = n by omega]
  | succ d ih =>
    intro i fu hi hf
    obtain ⟨f, rfl⟩ : ∃ f, fu = f + 1 := ⟨fu - 1, by omega⟩
    have hin : i < n := by omega
    have ih1 := ih (i + 1) f (by omega) (by omega)
    rw [fX9_ring_42, h3, if_neg (nI_ge hin (by omega)), q_in9 (show i < 32 by omega), hr i hin, nI_1]
    cases hg : rg i with
    | false =>
      rw [hd_no hg] at ih1
      rw [if_pos (show (if false = true then (1 : Int32) else 0) = 0 from rfl)]
      exact ih1
    | true =>
      rw [if_neg (show ¬ (if true = true then (1 : Int32) else 0) = 0 by decide)]
      cases hq : hd rg lm i with
      | none =>
        rw [hd_y0 hg hq] at ih1
        rw [show encN none = -9 from rfl, if_pos (by decide)]
        exact ih1
      | some c =>
        have hc := hd_lt hq
        rw [hd_y1 hg hq] at ih1
        have l1 := hl i hin
        have l2 := hl c (by omega)
        rw [show encN (some c) = nI c from rfl, if_neg (nI_pos (by omega)), l1.1, Option.bind_some, l2.1, Option.bind_some]
        by_cases e : lm c < lm i
        · rw [if_pos e] at ih1
          rw [if_neg (nI_ge e (by omega))]
          exact ih1
        · rw [if_neg e] at ih1
          rw [if_pos (nI_le (by omega) (by omega))]
          exact ih1
