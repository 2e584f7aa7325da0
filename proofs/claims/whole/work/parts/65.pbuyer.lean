/-! a buyer of the text, on both sides -/
def stB (r : MS) (kd x : Int32) : MS := u2 (u2 (u2 r 13 (r 12 0).toNatClampNeg kd) 14 (r 12 0).toNatClampNeg x) 12 0 (r 12 0 + 1)
def tlB (p1 p2 kd : Int32) (r8 : Int32 × MS) : Option (Int32 × MS) := if 0 ≤ r8.1 then ((fX9_figure p1 p2 (if r8.1 = 0 then nI 1 else nI 0) (nI 9) r8.2).bind fun r => if 0 ≤ r.1 then gd (r.2 12 0) 6 (gd (r.2 12 0) 6 (some (1, stB r.2 kd (10 * r8.1 + r.1)))) else some (0, r.2)) else some (0, r8.2)
theorem u2_rd (M : MS) (k i : Nat) (x : Int32) : u2 M k i x k i = x := by rw [u2_at, upd_at]
theorem rb_full {p1 p2 : Int32} {M : MS} (h : M 12 0 = fX9_lesser (6 : Int32) ((M 10 0) * (M 11 0))) : fX9_readsBuyer p1 p2 M = some (0, M) := by
  unfold fX9_readsBuyer
  rw [if_pos h]
theorem rb_c {p1 p2 x : Int32} {M : MS} (h : ¬ M 12 0 = fX9_lesser (6 : Int32) ((M 10 0) * (M 11 0))) (h1 : fX9_codeAt p1 p2 M = some x) (hx : ¬ x = 59) : fX9_readsBuyer p1 p2 M = some (0, M) := by
  unfold fX9_readsBuyer
  rw [if_neg h, h1, Option.bind_some, if_neg hx]
theorem rb_l {p1 p2 x : Int32} {M : MS} {p : Nat} (h9 : M 9 0 = nI p) (h : ¬ M 12 0 = fX9_lesser (6 : Int32) ((M 10 0) * (M 11 0))) (h1 : fX9_codeAt p1 p2 M = some 59) (h2 : fX9_codeAt p1 p2 (u2 M 9 0 (nI (p + 1))) = some x) (hx : ¬ x = 98 ∧ ¬ x = 104 ∧ ¬ x = 110) : fX9_readsBuyer p1 p2 M = some (0, u2 M 9 0 (nI (p + 1))) := by
  unfold fX9_readsBuyer
  rw [if_neg h, h1, Option.bind_some, if_pos rfl, h9, nI_1, h2, Option.bind_some, if_neg hx.1, if_neg hx.2.1, if_neg hx.2.2]
theorem rb_u {p1 p2 x kd : Int32} {M : MS} {p : Nat} (h9 : M 9 0 = nI p) (h : ¬ M 12 0 = fX9_lesser (6 : Int32) ((M 10 0) * (M 11 0))) (h1 : fX9_codeAt p1 p2 M = some 59) (h2 : fX9_codeAt p1 p2 (u2 M 9 0 (nI (p + 1))) = some x) (hx : (x = 98 ∧ kd = 0) ∨ (x = 104 ∧ kd = 1) ∨ (x = 110 ∧ kd = 2)) :
    fX9_readsBuyer p1 p2 M = (fX9_figure p1 p2 (nI 0) (nI 9) (u2 M 9 0 (nI (p + 2)))).bind (tlB p1 p2 kd) := by
  unfold fX9_readsBuyer
  rw [if_neg h, h1, Option.bind_some, if_pos rfl, h9, nI_1, h2, Option.bind_some, u2_rd, nI_1, u2_u2]
  rcases hx with ⟨rfl, rfl⟩ | ⟨rfl, rfl⟩ | ⟨rfl, rfl⟩
  · rw [if_pos rfl]
    refine congrArg (Option.bind _) (funext fun r8 => ?_)
    unfold tlB
    by_cases c1 : 0 ≤ r8.1
    · rw [if_pos c1, if_pos c1]
      by_cases c2 : r8.1 = 0
      · rw [if_pos c2, if_pos c2]
        refine congrArg (Option.bind _) (funext fun r => ?_)
        by_cases c3 : 0 ≤ r.1
        · rw [if_pos c3, if_pos c3, if_pos rfl]; rfl
        · rw [if_neg c3, if_neg c3]
      · rw [if_neg c2, if_neg c2]
        refine congrArg (Option.bind _) (funext fun r => ?_)
        by_cases c3 : 0 ≤ r.1
        · rw [if_pos c3, if_pos c3, if_pos rfl]; rfl
        · rw [if_neg c3, if_neg c3]
    · rw [if_neg c1, if_neg c1]
  · rw [if_neg (show ¬ (104 : Int32) = 98 by decide), if_pos rfl]
    refine congrArg (Option.bind _) (funext fun r8 => ?_)
    unfold tlB
    by_cases c1 : 0 ≤ r8.1
    · rw [if_pos c1, if_pos c1]
      by_cases c2 : r8.1 = 0
      · rw [if_pos c2, if_pos c2]
        refine congrArg (Option.bind _) (funext fun r => ?_)
        by_cases c3 : 0 ≤ r.1
        · rw [if_pos c3, if_pos c3, if_neg (show ¬ (104 : Int32) = 98 by decide), if_pos rfl]; rfl
        · rw [if_neg c3, if_neg c3]
      · rw [if_neg c2, if_neg c2]
        refine congrArg (Option.bind _) (funext fun r => ?_)
        by_cases c3 : 0 ≤ r.1
        · rw [if_pos c3, if_pos c3, if_neg (show ¬ (104 : Int32) = 98 by decide), if_pos rfl]; rfl
        · rw [if_neg c3, if_neg c3]
    · rw [if_neg c1, if_neg c1]
  · rw [if_neg (show ¬ (110 : Int32) = 98 by decide), if_neg (show ¬ (110 : Int32) = 104 by decide), if_pos rfl]
    refine congrArg (Option.bind _) (funext fun r8 => ?_)
    unfold tlB
    by_cases c1 : 0 ≤ r8.1
    · rw [if_pos c1, if_pos c1]
      by_cases c2 : r8.1 = 0
      · rw [if_pos c2, if_pos c2]
        refine congrArg (Option.bind _) (funext fun r => ?_)
        by_cases c3 : 0 ≤ r.1
        · rw [if_pos c3, if_pos c3, if_neg (show ¬ (110 : Int32) = 98 by decide), if_neg (show ¬ (110 : Int32) = 104 by decide)]; rfl
        · rw [if_neg c3, if_neg c3]
      · rw [if_neg c2, if_neg c2]
        refine congrArg (Option.bind _) (funext fun r => ?_)
        by_cases c3 : 0 ≤ r.1
        · rw [if_pos c3, if_pos c3, if_neg (show ¬ (110 : Int32) = 98 by decide), if_neg (show ¬ (110 : Int32) = 104 by decide)]; rfl
        · rw [if_neg c3, if_neg c3]
    · rw [if_neg c1, if_neg c1]
def cdN (kd : Nat) : Int32 := if kd = 0 then 98 else if kd = 1 then 104 else 110
theorem let_c (x : Int32) : (∃ kd, kd < 3 ∧ x = cdN kd ∧ ((x = 98 ∧ nI kd = 0) ∨ (x = 104 ∧ nI kd = 1) ∨ (x = 110 ∧ nI kd = 2))) ∨ (¬ x = 98 ∧ ¬ x = 104 ∧ ¬ x = 110) := by
  by_cases h1 : x = 98
  · exact Or.inl ⟨0, by decide, h1, Or.inl ⟨h1, rfl⟩⟩
  · by_cases h2 : x = 104
    · exact Or.inl ⟨1, by decide, h2, Or.inr (Or.inl ⟨h2, rfl⟩)⟩
    · by_cases h3 : x = 110
      · exact Or.inl ⟨2, by decide, h3, Or.inr (Or.inr ⟨h3, rfl⟩)⟩
      · exact Or.inr ⟨h1, h2, h3⟩
def bdF (n kk ii m j : Nat) (S M : MS) (res : Option (Int32 × MS)) : Prop := ∃ M' q, res = some (0, M') ∧ M' 9 0 = nI q ∧ 3 + 4 * j ≤ q ∧ q ≤ m ∧ (∀ r, 3 + 4 * j ≤ r → r < q → fX8_goesOn n kk (nI ii) (nI r) S = some 1) ∧ (q < m → fX8_goesOn n kk (nI ii) (nI q) S = some 0) ∧ (q = m → (m - 3) % 4 ≠ 0 ∨ m = 3 + 4 * j) ∧ ∀ i, i ≠ 9 → M' i = M i
def bdT (n kk ii m j R W : Nat) (S M : MS) (res : Option (Int32 × MS)) : Prop := ∃ M' kd t o, res = some (1, M') ∧ (kd < 3 ∧ t ≤ 9 ∧ o ≤ 9 ∧ 3 + 4 * j + 4 ≤ m ∧ j < 6 ∧ j < R * W) ∧ (∀ r, 3 + 4 * j ≤ r → r < 3 + 4 * j + 4 → fX8_goesOn n kk (nI ii) (nI r) S = some 1) ∧
  (M 29 (60 * kk + ii + (3 + 4 * j + 1)) = cdN kd ∧ M 29 (60 * kk + ii + (3 + 4 * j + 2)) = nI (48 + t) ∧ M 29 (60 * kk + ii + (3 + 4 * j + 3)) = nI (48 + o)) ∧ M' 9 0 = nI (3 + 4 * j + 4) ∧ M' 12 0 = nI (j + 1) ∧ M' 13 = upd (M 13) j (nI kd) ∧ M' 14 = upd (M 14) j (nI (10 * t + o)) ∧ ∀ i, (i < 9 ∨ i = 10 ∨ i = 11 ∨ 14 < i) → M' i = M i
theorem am_ite {t : Nat} (ht : t ≤ 9) (A B : Option Int32) : (if nI (48 + t) = 48 then A else B) = if t = 0 then A else B := by
  by_cases h : t = 0
  · rw [if_pos h, if_pos]; rw [h]; rfl
  · rw [if_neg h, if_neg (show ¬ nI (48 + t) = 48 from ne_k (k := 48) (by omega) (by decide) (by omega))]
theorem buyer_s {n kk ii m j R W : Nat} {S M : MS} (hkk : kk < 4) (hm : ii + m ≤ 60) (hat : ∀ p, p < m → fX6_at n kk (nI (ii + p)) S = some (M 29 (60 * kk + ii + p)))
    (hp : 3 + 4 * j ≤ m) (hj : j ≤ 6) (hjR : j ≤ R * W) (hRW : R * W ≤ 24) (c1 : M 29 (60 * kk + ii + 1) = nI (48 + R)) (c2 : M 29 (60 * kk + ii + 2) = nI (48 + W))
    (h9 : M 9 0 = nI (3 + 4 * j)) (h10 : M 10 0 = nI R) (h11 : M 11 0 = nI W) (h12 : M 12 0 = nI j) :
    bdF n kk ii m j S M (fX9_readsBuyer (nI (60 * kk + ii)) (nI m) M) ∨ bdT n kk ii m j R W S M (fX9_readsBuyer (nI (60 * kk + ii)) (nI m) M) := by
  have hfr : 60 * kk + ii + m ≤ 240 := by omega
  have hles : fX9_lesser (6 : Int32) ((M 10 0) * (M 11 0)) = nI (min 6 (R * W)) := by
    rw [h10, h11, pk_mul]
    exact lesser_spec (a := 6) (by omega) (by omega)
  have g3 : 3 + 4 * j < m → fX8_goesOn n kk (nI ii) (nI (3 + 4 * j)) S = if M 29 (60 * kk + ii + (3 + 4 * j)) = 59 ∧ j < 6 ∧ j < R * W then some 1 else some 0 := fun h =>
    go_3 (by omega) (by omega) (hat _ h) (by rw [hat 1 (by omega), c1]) (by rw [hat 2 (by omega), c2])
  by_cases hfull : j = min 6 (R * W)
  · refine Or.inl ⟨M, 3 + 4 * j, rb_full (by rw [hles, h12, ← hfull]), h9, Nat.le_refl _, hp, fun r h1 h2 => by omega, fun h => ?_, fun h => Or.inr h.symm, fun _ _ => rfl⟩
    rw [g3 h, if_neg (by omega)]
  · have hj6 : j < 6 ∧ j < R * W := by omega
    have hnf : ¬ M 12 0 = fX9_lesser (6 : Int32) ((M 10 0) * (M 11 0)) := by
      rw [hles, h12]
      exact ne_k (by omega) (by omega) hfull
    rcases Nat.lt_or_ge (3 + 4 * j) m with h0 | h0
    · have hc0 := code_s h9 h0 hfr
      by_cases hx : M 29 (60 * kk + ii + (3 + 4 * j)) = 59
      · have G0 : fX8_goesOn n kk (nI ii) (nI (3 + 4 * j)) S = some 1 := by rw [g3 h0, if_pos ⟨hx, hj6⟩]
        rw [hx] at hc0
        have h91 : u2 M 9 0 (nI (3 + 4 * j + 1)) 9 0 = nI (3 + 4 * j + 1) := u2_rd _ _ _ _
        rcases Nat.lt_or_ge (3 + 4 * j + 1) m with h1 | h1
        · have hc1 : fX9_codeAt (nI (60 * kk + ii)) (nI m) (u2 M 9 0 (nI (3 + 4 * j + 1))) = some (M 29 (60 * kk + ii + (3 + 4 * j + 1))) := code_s h91 h1 hfr
          have g4 := go_4 (n := n) (kk := kk) (ii := ii) (S := S) (j := j) (by omega) (hat _ h1)
          rcases let_c (M 29 (60 * kk + ii + (3 + 4 * j + 1))) with ⟨kd, hkd, hcd, hl⟩ | hl
          · have G1 : fX8_goesOn n kk (nI ii) (nI (3 + 4 * j + 1)) S = some 1 := by
              rw [g4]
              rcases hl with ⟨q, _⟩ | ⟨q, _⟩ | ⟨q, _⟩
              · rw [if_pos q]
              · rw [q, if_neg (by decide), if_pos rfl]
              · rw [q, if_neg (by decide), if_neg (by decide), if_pos rfl]
            rw [rb_u h9 hnf hc0 hc1 hl]
            have h92 : u2 M 9 0 (nI (3 + 4 * j + 2)) 9 0 = nI (3 + 4 * j + 2) := u2_rd _ _ _ _
            have f2 := fig_c (a := 0) (b := 9) h92 (show 3 + 4 * j + 2 ≤ m by omega) (by omega) hfr (by omega) (by omega)
            rw [show u2 M 9 0 (nI (3 + 4 * j + 2)) 29 = M 29 from rfl, u2_u2] at f2
            rcases f2 with ⟨h2, t, _, ht9, ht, ham, hf⟩ | ⟨h2, ham, hf⟩ | ⟨h2, hf⟩
            · rw [hf, Option.bind_some]
              have G2 : fX8_goesOn n kk (nI ii) (nI (3 + 4 * j + 2)) S = some 1 := by
                rw [go_5 (by omega) (hat _ h2), ham]
              have hG : ∀ r, 3 + 4 * j ≤ r → r < 3 + 4 * j + 3 → fX8_goesOn n kk (nI ii) (nI r) S = some 1 := fun r q1 q2 => by
                rcases (show r = 3 + 4 * j ∨ r = 3 + 4 * j + 1 ∨ r = 3 + 4 * j + 2 by omega) with rfl | rfl | rfl
                · exact G0
                · exact G1
                · exact G2
              unfold tlB
              dsimp only
              have hai : (if nI t = 0 then nI 1 else nI 0) = nI (if t = 0 then 1 else 0) := by
                by_cases e : t = 0
                · rw [if_pos e, if_pos (show nI t = 0 by rw [e]; rfl)]
                · rw [if_neg e, if_neg (show ¬ nI t = 0 from ne_k (k := 0) (by omega) (by decide) e)]
              rw [if_pos (nI_pos' (by omega)), hai]
              have h93 : u2 M 9 0 (nI (3 + 4 * j + 2 + 1)) 9 0 = nI (3 + 4 * j + 3) := u2_rd _ _ _ _
              have f3 := fig_c (a := if t = 0 then 1 else 0) (b := 9) h93 (show 3 + 4 * j + 3 ≤ m by omega) (by omega) hfr (by split <;> omega) (by omega)
              rw [show u2 M 9 0 (nI (3 + 4 * j + 2 + 1)) 29 = M 29 from rfl, u2_u2] at f3
              have g6 : 3 + 4 * j + 3 < m → fX8_goesOn n kk (nI ii) (nI (3 + 4 * j + 3)) S = some (fX8_isAmong (M 29 (60 * kk + ii + (3 + 4 * j + 3))) (nI (48 + if t = 0 then 1 else 0)) (nI (48 + 9))) := fun h => by
                rw [go_6 (by omega) (hat _ h) (hat _ h2), ht, am_ite ht9]
                by_cases e : t = 0
                · rw [if_pos e, if_pos e]
                · rw [if_neg e, if_neg e]
              rcases f3 with ⟨h3, w, _, hw9, hw, ham3, hf3⟩ | ⟨h3, ham3, hf3⟩ | ⟨h3, hf3⟩
              · rw [hf3, Option.bind_some]
                dsimp only
                have h124 : u2 M 9 0 (nI (3 + 4 * j + 3 + 1)) 12 0 = nI j := h12
                rw [if_pos (nI_pos' (by omega)), h124, gd_nI (show j < 6 by omega) (by decide), gd_nI (show j < 6 by omega) (by decide)]
                refine Or.inr ⟨_, kd, t, w, rfl, ⟨hkd, ht9, hw9, by omega, hj6⟩, fun r q1 q2 => ?_, ⟨hcd, ht, hw⟩, ?_, ?_, ?_, ?_, fun i hi => ?_⟩
                · rcases Nat.lt_or_ge r (3 + 4 * j + 3) with q | q
                  · exact hG r q1 q
                  · rw [show r = 3 + 4 * j + 3 by omega, g6 h3, ham3]
                · exact u2_rd M 9 0 (nI (3 + 4 * j + 3 + 1))
                · show u2 M 9 0 (nI (3 + 4 * j + 3 + 1)) 12 0 + 1 = nI (j + 1)
                  rw [h124, nI_1]
                · show upd (M 13) (u2 M 9 0 (nI (3 + 4 * j + 3 + 1)) 12 0).toNatClampNeg (nI kd) = _
                  rw [h124, nI_clamp (by omega)]
                · show upd (M 14) (u2 M 9 0 (nI (3 + 4 * j + 3 + 1)) 12 0).toNatClampNeg (10 * nI t + nI w) = _
                  rw [h124, nI_clamp (by omega), show (10 : Int32) = nI 10 from rfl, pk_mul, nI_add]
                · unfold stB
                  rw [u2_ne _ _ _ (by omega), u2_ne _ _ _ (by omega), u2_ne _ _ _ (by omega), u2_ne _ _ _ (by omega)]
              · rw [hf3, Option.bind_some]
                dsimp only
                rw [if_neg (show ¬ (0 : Int32) ≤ -9 by decide)]
                refine Or.inl ⟨_, 3 + 4 * j + 3, rfl, u2_rd _ _ _ _, by omega, by omega, hG, fun h => ?_, fun h => by omega, fun i hi => (u2_ne _ _ _ hi).trans (u2_ne _ _ _ hi)⟩
                rw [g6 h, ham3]
              · rw [hf3, Option.bind_some]
                dsimp only
                rw [if_neg (show ¬ (0 : Int32) ≤ -9 by decide)]
                exact Or.inl ⟨_, 3 + 4 * j + 3, rfl, u2_rd _ _ _ _, by omega, by omega, hG, fun h => by omega, fun h => Or.inl (by omega), fun i hi => (u2_ne _ _ _ hi).trans (u2_ne _ _ _ hi)⟩
            · rw [hf, Option.bind_some]
              unfold tlB
              dsimp only
              rw [if_neg (show ¬ (0 : Int32) ≤ -9 by decide)]
              refine Or.inl ⟨_, 3 + 4 * j + 2, rfl, u2_rd _ _ _ _, by omega, by omega, fun r q1 q2 => ?_, fun h => ?_, fun h => by omega, fun i hi => (u2_ne _ _ _ hi).trans (u2_ne _ _ _ hi)⟩
              · rcases (show r = 3 + 4 * j ∨ r = 3 + 4 * j + 1 by omega) with rfl | rfl
                · exact G0
                · exact G1
              · rw [go_5 (by omega) (hat _ h), ham]
            · rw [hf, Option.bind_some]
              unfold tlB
              dsimp only
              rw [if_neg (show ¬ (0 : Int32) ≤ -9 by decide)]
              refine Or.inl ⟨_, 3 + 4 * j + 2, rfl, u2_rd _ _ _ _, by omega, by omega, fun r q1 q2 => ?_, fun h => by omega, fun h => Or.inl (by omega), fun i hi => (u2_ne _ _ _ hi).trans (u2_ne _ _ _ hi)⟩
              rcases (show r = 3 + 4 * j ∨ r = 3 + 4 * j + 1 by omega) with rfl | rfl
              · exact G0
              · exact G1
          · rw [rb_l h9 hnf hc0 hc1 hl]
            refine Or.inl ⟨_, 3 + 4 * j + 1, rfl, u2_rd _ _ _ _, by omega, by omega, fun r q1 q2 => ?_, fun h => ?_, fun h => by omega, fun i hi => u2_ne _ _ _ hi⟩
            · rw [show r = 3 + 4 * j by omega]; exact G0
            · rw [g4, if_neg hl.1, if_neg hl.2.1, if_neg hl.2.2]
        · have e1 : 3 + 4 * j + 1 = m := by omega
          have hc1 : fX9_codeAt (nI (60 * kk + ii)) (nI m) (u2 M 9 0 (nI (3 + 4 * j + 1))) = some (-9) := code_e (by rw [h91, e1]) (by omega)
          rw [rb_l h9 hnf hc0 hc1 (by decide)]
          refine Or.inl ⟨_, 3 + 4 * j + 1, rfl, u2_rd _ _ _ _, by omega, by omega, fun r q1 q2 => ?_, fun h => by omega, fun h => Or.inl (by omega), fun i hi => u2_ne _ _ _ hi⟩
          rw [show r = 3 + 4 * j by omega]; exact G0
      · refine Or.inl ⟨M, 3 + 4 * j, rb_c hnf hc0 hx, h9, Nat.le_refl _, hp, fun r h1 h2 => by omega, fun h => ?_, fun h => Or.inr h.symm, fun _ _ => rfl⟩
        rw [g3 h, if_neg (fun w => hx w.1)]
    · have e0 : 3 + 4 * j = m := by omega
      exact Or.inl ⟨M, 3 + 4 * j, rb_c hnf (code_e (by rw [h9, e0]) (by omega)) (by decide), h9, Nat.le_refl _, hp, fun r h1 h2 => by omega, fun h => by omega, fun h => Or.inr h.symm, fun _ _ => rfl⟩
