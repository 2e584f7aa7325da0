/-! the classes: gathering, offering, lining up -/
theorem gather_l {n : Nat} {mask : Int32} {k : MS → Option MS} (hn : n ≤ 6) : ∀ d i fu (S : MS), i + d = 6 → d < fu → ∃ S', fX0_gather_7 n fu k mask (nI i) S = k S' ∧ (∀ j, j ≠ 11 → j ≠ 12 → j ≠ 13 → S' j = S j) ∧ (∀ x, x ≠ 1 → S' 11 x = S 11 x) ∧ (∀ b, S' 12 b = if i ≤ b ∧ b < 6 then (if b < n ∧ bitS mask b = true then S 22 b else -1) else S 12 b) ∧ (∀ b, S' 13 b = if i ≤ b ∧ b < 6 then (if b < n ∧ bitS mask b = true then S 21 b else 0) else S 13 b) ∧ ∀ b, b < 32 → bitS (S' 11 1) b = (bitS (S 11 1) b || decide (i ≤ b ∧ b < n ∧ bitS mask b = true ∧ ¬ vhat (S 20 b) = 0)) := by
  intro d
  induction d with
  | zero =>
    intro i fu S hi hf
    obtain ⟨f, rfl⟩ : ∃ f, fu = f + 1 := ⟨fu - 1, by omega⟩
    refine ⟨S, ?_, fun _ _ _ _ => rfl, fun _ _ => rfl, fun b => ?_, fun b => ?_, fun b hb => ?_⟩
    · rw [fX0_gather_7, if_pos (show (6 : Int32) ≤ nI i from nI_le (a := 6) (by omega) (by omega))]
    · rw [if_neg (by omega)]
    · rw [if_neg (by omega)]
    · rw [decide_eq_false (by omega), Bool.or_false]
  | succ d ih =>
    intro i fu S hi hf
    obtain ⟨f, rfl⟩ : ∃ f, fu = f + 1 := ⟨fu - 1, by omega⟩
    have hi6 : i < 6 := by omega
    have fin : ∀ S1 : MS, (∀ j, j ≠ 11 → j ≠ 12 → j ≠ 13 → S1 j = S j) → (∀ x, x ≠ 1 → S1 11 x = S 11 x) → (∀ b, b ≠ i → S1 12 b = S 12 b) → S1 12 i = (if i < n ∧ bitS mask i = true then S 22 i else -1) → (∀ b, b ≠ i → S1 13 b = S 13 b) → S1 13 i = (if i < n ∧ bitS mask i = true then S 21 i else 0) → (∀ b, b < 32 → bitS (S1 11 1) b = (bitS (S 11 1) b || decide (b = i ∧ i < n ∧ bitS mask i = true ∧ ¬ vhat (S 20 i) = 0))) →
        ∃ S', fX0_gather_7 n f k mask (nI (i + 1)) S1 = k S' ∧ (∀ j, j ≠ 11 → j ≠ 12 → j ≠ 13 → S' j = S j) ∧ (∀ x, x ≠ 1 → S' 11 x = S 11 x) ∧ (∀ b, S' 12 b = if i ≤ b ∧ b < 6 then (if b < n ∧ bitS mask b = true then S 22 b else -1) else S 12 b) ∧ (∀ b, S' 13 b = if i ≤ b ∧ b < 6 then (if b < n ∧ bitS mask b = true then S 21 b else 0) else S 13 b) ∧ ∀ b, b < 32 → bitS (S' 11 1) b = (bitS (S 11 1) b || decide (i ≤ b ∧ b < n ∧ bitS mask b = true ∧ ¬ vhat (S 20 b) = 0)) := by
      intro S1 a1 a2 a3 a4 a5 a6 a7
      obtain ⟨S', w1, w2, w3, w4, w5, w6⟩ := ih (i + 1) f S1 (by omega) (by omega)
      refine ⟨S', w1, fun j h1 h2 h3 => (w2 j h1 h2 h3).trans (a1 j h1 h2 h3), fun x hx => (w3 x hx).trans (a2 x hx), fun b => ?_, fun b => ?_, fun b hb => ?_⟩
      · rw [w4 b, a1 22 (by decide) (by decide) (by decide)]
        by_cases e : b = i
        · rw [e, if_neg (show ¬ (i + 1 ≤ i ∧ i < 6) by omega), if_pos (show i ≤ i ∧ i < 6 by omega), a4]
        · rw [a3 b e]
          by_cases e2 : i ≤ b ∧ b < 6
          · rw [if_pos e2, if_pos (show i + 1 ≤ b ∧ b < 6 by omega)]
          · rw [if_neg e2, if_neg (show ¬ (i + 1 ≤ b ∧ b < 6) by omega)]
      · rw [w5 b, a1 21 (by decide) (by decide) (by decide)]
        by_cases e : b = i
        · rw [e, if_neg (show ¬ (i + 1 ≤ i ∧ i < 6) by omega), if_pos (show i ≤ i ∧ i < 6 by omega), a6]
        · rw [a5 b e]
          by_cases e2 : i ≤ b ∧ b < 6
          · rw [if_pos e2, if_pos (show i + 1 ≤ b ∧ b < 6 by omega)]
          · rw [if_neg e2, if_neg (show ¬ (i + 1 ≤ b ∧ b < 6) by omega)]
      · rw [w6 b hb, a7 b hb, a1 20 (by decide) (by decide) (by decide), Bool.or_assoc]
        congr 1
        by_cases e : b = i
        · subst e
          rw [decide_eq_false (show ¬ (b + 1 ≤ b ∧ b < n ∧ bitS mask b = true ∧ ¬ vhat (S 20 b) = 0) by omega), Bool.or_false]
          congr 1
          exact propext ⟨fun w => ⟨by omega, w.2⟩, fun w => ⟨rfl, w.2⟩⟩
        · rw [decide_eq_false (show ¬ (b = i ∧ i < n ∧ bitS mask i = true ∧ ¬ vhat (S 20 i) = 0) from fun w => e w.1), Bool.false_or]
          congr 1
          exact propext ⟨fun w => ⟨by omega, w.2⟩, fun w => ⟨by omega, w.2⟩⟩
    rw [fX0_gather_7, if_neg (show ¬ (6 : Int32) ≤ nI i from nI_ge (b := 6) (by omega) (by decide)), gd_nI hi6 (by decide), gd_nI hi6 (by decide), nI_1, nI_clamp (show i < 2 ^ 31 by omega)]
    have fr1 : ∀ j, j ≠ 11 → j ≠ 12 → j ≠ 13 → u2 (u2 S 12 i (-1)) 13 i 0 j = S j := fun j h1 h2 h3 => by rw [u2_ne _ _ _ h3, u2_ne _ _ _ h2]
    by_cases hin : i < n
    · rw [buyerOf_at hn hin, om_some, q_in (show i < 32 by omega)]
      by_cases hm : bitS mask i = true
      · rw [if_pos hm, if_neg z10, gd_nI hi6 (by decide), gd_nI hi6 (by decide)]
        have fr2 : ∀ (y : Int32) (j : Nat), j ≠ 11 → j ≠ 12 → j ≠ 13 → u2 (u2 (u2 (u2 (u2 S 12 i (-1)) 13 i 0) 12 i (S 22 i)) 13 i (S 21 i)) 11 1 y j = S j := fun y j h1 h2 h3 => by rw [u2_ne _ _ _ h1, u2_ne _ _ _ h3, u2_ne _ _ _ h2, u2_ne _ _ _ h3, u2_ne _ _ _ h2]
        have r12 : ∀ b, b ≠ i → upd (upd (S 12) i (-1)) i (S 22 i) b = S 12 b := fun b hb => by rw [upd_ne _ _ hb, upd_ne _ _ hb]
        have r13 : ∀ b, b ≠ i → upd (upd (S 13) i 0) i (S 21 i) b = S 13 b := fun b hb => by rw [upd_ne _ _ hb, upd_ne _ _ hb]
        have s12 : upd (upd (S 12) i (-1)) i (S 22 i) i = (if i < n ∧ bitS mask i = true then S 22 i else -1) := by rw [upd_at, if_pos ⟨hin, hm⟩]
        have s13 : upd (upd (S 13) i 0) i (S 21 i) i = (if i < n ∧ bitS mask i = true then S 21 i else 0) := by rw [upd_at, if_pos ⟨hin, hm⟩]
        have r11 : ∀ (y : Int32) (x : Nat), x ≠ 1 → upd (S 11) 1 y x = S 11 x := fun y x hx => upd_ne _ _ hx
        by_cases hv : vhat (S 20 i) = 0
        · refine Eq.mp ?_ (fin (u2 (u2 (u2 (u2 (u2 S 12 i (-1)) 13 i 0) 12 i (S 22 i)) 13 i (S 21 i)) 11 1 (S 11 1 ||| 0)) (fr2 _) (r11 _) r12 s12 r13 s13 (fun b hb => ?_))
          · congr 1
            funext S'
            congr 2
            exact (if_pos hv).symm
          · show bitS (S 11 1 ||| 0) b = _
            rw [q_or, q_0, decide_eq_false (fun w => w.2.2.2 hv)]
        · refine Eq.mp ?_ (fin (u2 (u2 (u2 (u2 (u2 S 12 i (-1)) 13 i 0) 12 i (S 22 i)) 13 i (S 21 i)) 11 1 (S 11 1 ||| ((1 : Int32) <<< (nI i &&& 31)))) (fr2 _) (r11 _) r12 s12 r13 s13 (fun b hb => ?_))
          · congr 1
            funext S'
            congr 2
            exact (if_neg hv).symm
          · show bitS (S 11 1 ||| ((1 : Int32) <<< (nI i &&& 31))) b = _
            rw [q_set (show i < 32 by omega) _ hb]
            congr 2
            exact propext ⟨fun w => ⟨w, hin, hm, hv⟩, fun w => w.1⟩
      · rw [if_neg hm, if_pos rfl]
        refine fin _ fr1 (fun _ _ => rfl) (fun b hb => upd_ne _ _ hb) ?_ (fun b hb => upd_ne _ _ hb) ?_ (fun b hb => ?_)
        · rw [if_neg (fun w => hm w.2)]; exact upd_at _ _ _
        · rw [if_neg (fun w => hm w.2)]; exact upd_at _ _ _
        · rw [decide_eq_false (fun w => hm w.2.2.1), Bool.or_false]; rfl
    · rw [buyerOf_no hn (by omega) (by omega), om_none]
      refine fin _ fr1 (fun _ _ => rfl) (fun b hb => upd_ne _ _ hb) ?_ (fun b hb => upd_ne _ _ hb) ?_ (fun b hb => ?_)
      · rw [if_neg (fun w => hin w.1)]; exact upd_at _ _ _
      · rw [if_neg (fun w => hin w.1)]; exact upd_at _ _ _
      · rw [decide_eq_false (fun w => hin w.2.1), Bool.or_false]; rfl
theorem gather_s {n : Nat} {mask : Int32} (hn : n ≤ 6) (S : MS) : ∃ S', fX0_gather n mask S = some S' ∧ (∀ j, j ≠ 11 → j ≠ 12 → j ≠ 13 → S' j = S j) ∧ (∀ b, b < 6 → S' 12 b = if b < n ∧ bitS mask b = true then S 22 b else -1) ∧ (∀ b, b < 6 → S' 13 b = if b < n ∧ bitS mask b = true then S 21 b else 0) ∧ ∀ b, b < 6 → bitS (S' 11 1) b = decide (b < n ∧ bitS mask b = true ∧ ¬ vhat (S 20 b) = 0) := by
  obtain ⟨S', w1, w2, w3, w4, w5, w6⟩ := gather_l (mask := mask) (k := fun M10 => some M10) hn 6 0 300 (u2 S 11 1 0) (by omega) (by omega)
  refine ⟨S', w1, fun j h1 h2 h3 => (w2 j h1 h2 h3).trans (u2_ne _ _ _ h1), fun b hb => ?_, fun b hb => ?_, fun b hb => ?_⟩
  · rw [w4 b, if_pos (show 0 ≤ b ∧ b < 6 by omega)]; rfl
  · rw [w5 b, if_pos (show 0 ≤ b ∧ b < 6 by omega)]; rfl
  · rw [w6 b (by omega), show u2 S 11 1 0 11 1 = 0 from rfl, q_0, Bool.false_or, show u2 S 11 1 0 20 = S 20 from rfl]
    congr 1
    exact propext ⟨fun w => w.2, fun w => ⟨Nat.zero_le _, w⟩⟩
theorem offer_l {n lo : Nat} {k : MS → Option MS} (hn : n ≤ 6) (hlo : lo < 4) : ∀ d i fu (S : MS), i + d = 6 → d < fu → ∃ S', fX0_offer_2 n fu k (nI lo) (nI i) S = k S' ∧ (∀ j, j ≠ 14 → S' j = S j) ∧ ∀ b, S' 14 b = if i ≤ b ∧ b < 6 then (if b < n ∧ ¬ S 12 b = -1 then vlim (S 20 b) (S 23 (6 * lo + b)) (S 13 b) else 0) else S 14 b := by
  intro d
  induction d with
  | zero =>
    intro i fu S hi hf
    obtain ⟨f, rfl⟩ : ∃ f, fu = f + 1 := ⟨fu - 1, by omega⟩
    refine ⟨S, ?_, fun _ _ => rfl, fun b => ?_⟩
    · rw [fX0_offer_2, if_pos (show (6 : Int32) ≤ nI i from nI_le (a := 6) (by omega) (by omega))]
    · rw [if_neg (by omega)]
  | succ d ih =>
    intro i fu S hi hf
    obtain ⟨f, rfl⟩ : ∃ f, fu = f + 1 := ⟨fu - 1, by omega⟩
    have hi6 : i < 6 := by omega
    have fin : ∀ S1 : MS, (∀ j, j ≠ 14 → S1 j = S j) → (∀ b, b ≠ i → S1 14 b = S 14 b) → S1 14 i = (if i < n ∧ ¬ S 12 i = -1 then vlim (S 20 i) (S 23 (6 * lo + i)) (S 13 i) else 0) →
        ∃ S', fX0_offer_2 n f k (nI lo) (nI (i + 1)) S1 = k S' ∧ (∀ j, j ≠ 14 → S' j = S j) ∧ ∀ b, S' 14 b = if i ≤ b ∧ b < 6 then (if b < n ∧ ¬ S 12 b = -1 then vlim (S 20 b) (S 23 (6 * lo + b)) (S 13 b) else 0) else S 14 b := by
      intro S1 a1 a2 a3
      obtain ⟨S', w1, w2, w3⟩ := ih (i + 1) f S1 (by omega) (by omega)
      refine ⟨S', w1, fun j hj => (w2 j hj).trans (a1 j hj), fun b => ?_⟩
      rw [w3 b, a1 12 (by decide), a1 20 (by decide), a1 23 (by decide), a1 13 (by decide)]
      by_cases e : b = i
      · rw [e, if_neg (show ¬ (i + 1 ≤ i ∧ i < 6) by omega), if_pos (show i ≤ i ∧ i < 6 by omega), a3]
      · rw [a2 b e]
        by_cases e2 : i ≤ b ∧ b < 6
        · rw [if_pos e2, if_pos (show i + 1 ≤ b ∧ b < 6 by omega)]
        · rw [if_neg e2, if_neg (show ¬ (i + 1 ≤ b ∧ b < 6) by omega)]
    rw [fX0_offer_2, if_neg (show ¬ (6 : Int32) ≤ nI i from nI_ge (b := 6) (by omega) (by decide)), gd_nI hi6 (by decide), nI_1, nI_clamp (show i < 2 ^ 31 by omega)]
    by_cases hin : i < n
    · rw [buyerOf_at hn hin, om_some, gd_nI hi6 (by decide)]
      rcases lot_c (nI lo) with ⟨k0, q1, q2, q3, q4⟩ | ⟨q3, q4⟩
      · by_cases hm : S 12 i = -1
        · rw [if_pos (show u2 S 14 i 0 12 i = -1 from hm)]
          refine fin _ (fun j hj => u2_ne _ _ _ hj) (fun b hb => upd_ne _ _ hb) ?_
          rw [if_neg (fun w => w.2 hm)]; exact upd_at _ _ _
        · rw [if_neg (show ¬ u2 S 14 i 0 12 i = -1 from hm), q4, if_neg z10, gd_nI hlo (by decide), gd_nI hi6 (by decide), gd_nI hi6 (by decide), nI_clamp (show lo < 2 ^ 31 by omega)]
          refine fin _ (fun j hj => by rw [u2_ne _ _ _ hj, u2_ne _ _ _ hj]) (fun b hb => ?_) ?_
          · show upd (upd (S 14) i 0) i _ b = _
            rw [upd_ne _ _ hb, upd_ne _ _ hb]
          · rw [if_pos ⟨hin, hm⟩]
            exact upd_at _ _ _
      · exfalso
        have := (by decide : ∀ l, l < 4 → fX8_isLot (nI l) = 1) lo hlo
        rw [q4] at this
        exact absurd this (by decide)
    · rw [buyerOf_no hn (by omega) (by omega), om_none]
      refine fin _ (fun j hj => u2_ne _ _ _ hj) (fun b hb => upd_ne _ _ hb) ?_
      rw [if_neg (fun w => hin w.1)]; exact upd_at _ _ _
theorem offer_s {n lo : Nat} (hn : n ≤ 6) (hlo : lo < 4) (S : MS) : ∃ S', fX0_offer n (nI lo) S = some S' ∧ (∀ j, j ≠ 14 → S' j = S j) ∧ ∀ b, b < 6 → S' 14 b = if b < n ∧ ¬ S 12 b = -1 then vlim (S 20 b) (S 23 (6 * lo + b)) (S 13 b) else 0 := by
  obtain ⟨S', w1, w2, w3⟩ := offer_l (lo := lo) (k := fun M11 => some M11) hn hlo 6 0 300 S (by omega) (by omega)
  refine ⟨S', w1, w2, fun b hb => ?_⟩
  rw [w3 b, if_pos (show 0 ≤ b ∧ b < 6 by omega)]
