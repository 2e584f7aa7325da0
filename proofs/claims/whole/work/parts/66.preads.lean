/-! a whole text, on both sides -/
theorem zb0 {α : Type} (a : Option α) : zb 0 a = a := if_pos (Or.inl rfl)
theorem zb1 {α : Type} (a : Option α) : zb 1 a = a := if_pos (Or.inr rfl)
theorem rl_0 {k : Int32 → MS → Option (Int32 × MS)} {v1 v2 : Int32} {M : MS} (fu : Nat) (hf : 0 < fu) : fX9_readsHall_104 fu k v1 v2 0 M = k 0 M := by
  obtain ⟨f, rfl⟩ : ∃ f, fu = f + 1 := ⟨fu - 1, by omega⟩
  rw [fX9_readsHall_104, if_pos rfl]
def rdF (n kk ii m : Nat) (S M : MS) (res : Option (Int32 × MS)) : Prop := ∃ M' q, res = some (0, M') ∧ M' 9 0 = nI q ∧ fX8_firstFault n kk (nI ii) (nI m) S = some (nI q) ∧ q ≤ 60 ∧ ∀ i, (i < 9 ∨ 14 < i) → M' i = M i
def byO (kk ii : Nat) (M M' : MS) (b : Nat) : Prop := ∃ kd t o, (kd < 3 ∧ t ≤ 9 ∧ o ≤ 9) ∧ (M 29 (60 * kk + ii + (3 + 4 * b + 1)) = cdN kd ∧ M 29 (60 * kk + ii + (3 + 4 * b + 2)) = nI (48 + t) ∧ M 29 (60 * kk + ii + (3 + 4 * b + 3)) = nI (48 + o)) ∧ M' 13 b = nI kd ∧ M' 14 b = nI (10 * t + o)
def rdT (n kk ii m R W : Nat) (S M : MS) (res : Option (Int32 × MS)) : Prop := ∃ M' j, res = some (1, M') ∧ fX8_firstFault n kk (nI ii) (nI m) S = some (-1) ∧ (m = 3 + 4 * j ∧ 2 ≤ j ∧ j ≤ 6 ∧ j ≤ R * W) ∧ (M' 10 0 = nI R ∧ M' 11 0 = nI W ∧ M' 12 0 = nI j) ∧ (∀ b, b < j → byO kk ii M M' b) ∧ ∀ i, (i < 9 ∨ 14 < i) → M' i = M i
theorem rl_l {n kk ii m R W : Nat} {S M0 : MS} (hkk : kk < 4) (hm : ii + m ≤ 60) (hat : ∀ p, p < m → fX6_at n kk (nI (ii + p)) S = some (M0 29 (60 * kk + ii + p))) (hRW : R * W ≤ 24) (c1 : M0 29 (60 * kk + ii + 1) = nI (48 + R)) (c2 : M0 29 (60 * kk + ii + 2) = nI (48 + W)) :
    ∀ d fu j (M : MS), j + d = 7 → d < fu → 3 + 4 * j ≤ m → j ≤ 6 → j ≤ R * W → M 9 0 = nI (3 + 4 * j) → M 10 0 = nI R → M 11 0 = nI W → M 12 0 = nI j → (∀ r, r < 3 + 4 * j → fX8_goesOn n kk (nI ii) (nI r) S = some 1) → (∀ b, b < j → byO kk ii M0 M b) → (∀ i, (i < 9 ∨ 14 < i) → M i = M0 i) →
      rdF n kk ii m S M0 (fX9_readsHall_104 fu (fun x M => (zb x (some (x, M)))) (nI (60 * kk + ii)) (nI m) 1 M) ∨ rdT n kk ii m R W S M0 (fX9_readsHall_104 fu (fun x M => (zb x (some (x, M)))) (nI (60 * kk + ii)) (nI m) 1 M) := by
  intro d
  induction d with
  | zero => intro fu j M hj _ _ h6; omega
  | succ d ih =>
    intro fu j M hj hf hp h6 hjR h9 h10 h11 h12 hg hb hfr
    obtain ⟨f, rfl⟩ : ∃ f, fu = f + 1 := ⟨fu - 1, by omega⟩
    by_cases hex : 2 ≤ j ∧ m = 3 + 4 * j
    · refine Or.inr ⟨M, j, ?_, ?_, ⟨hex.2, hex.1, h6, hjR⟩, ⟨h10, h11, h12⟩, hb, hfr⟩
      · rw [fX9_readsHall_104, if_neg z10, h12, if_neg (show ¬ nI j < 2 from nI_nlt (b := 2) hex.1 (by omega)), h9, if_pos (nI_le (by omega) (by omega)), zb1]
      · rw [ff_b (by omega) (by rw [hex.2]; exact hg), if_neg (by omega)]
    · have hst : fX9_readsHall_104 (f + 1) (fun x M => (zb x (some (x, M)))) (nI (60 * kk + ii)) (nI m) 1 M = (fX9_readsBuyer (nI (60 * kk + ii)) (nI m) M).bind fun r8 => fX9_readsHall_104 f (fun x M => (zb x (some (x, M)))) (nI (60 * kk + ii)) (nI m) r8.1 r8.2 := by
        rw [fX9_readsHall_104, if_neg z10, h12]
        by_cases hj2 : j < 2
        · rw [if_pos (show nI j < 2 from nI_lt (b := 2) hj2 (by decide))]
        · rw [if_neg (show ¬ nI j < 2 from nI_nlt (b := 2) (by omega) (by omega)), h9, if_neg (nI_ge (show 3 + 4 * j < m by omega) (by omega))]
      rw [hst]
      have h29 : M 29 = M0 29 := hfr 29 (by decide)
      rcases buyer_s (n := n) (S := S) (M := M) hkk hm (by rw [h29]; exact hat) hp h6 hjR hRW (by rw [h29]; exact c1) (by rw [h29]; exact c2) h9 h10 h11 h12 with ⟨M', q, e, e9, q1, q2, q3, q4, q5, q6⟩ | ⟨M', kd, t, o, e, ⟨b1, b2, b3, b4, b5, b6⟩, q3, ⟨t1, t2, t3⟩, e9, e12, e13, e14, q6⟩
      · rw [e, Option.bind_some]
        dsimp only
        rw [rl_0 f (by omega), zb0]
        have hg' : ∀ r, r < q → fX8_goesOn n kk (nI ii) (nI r) S = some 1 := fun r hr => by
          rcases Nat.lt_or_ge r (3 + 4 * j) with w | w
          · exact hg r w
          · exact q3 r w hr
        refine Or.inl ⟨M', q, rfl, e9, ?_, by omega, fun i hi => by rw [q6 i (by omega)]; exact hfr i hi⟩
        rcases Nat.lt_or_ge q m with w | w
        · exact ff_a (by omega) w hg' (q4 w)
        · have eq : q = m := by omega
          rw [ff_b (by omega) (by rw [← eq]; exact hg'), eq, if_pos]
          rcases q5 eq with w2 | w2
          · exact Or.inr w2
          · exact Or.inl (by omega)
      · rw [e, Option.bind_some]
        dsimp only
        refine ih f (j + 1) M' (by omega) (by omega) (by omega) (by omega) (by omega) (by rw [e9]; rfl) (by rw [q6 10 (by decide)]; exact h10) (by rw [q6 11 (by decide)]; exact h11) e12 (fun r hr => ?_) (fun b hb2 => ?_) (fun i hi => by rw [q6 i (by omega)]; exact hfr i hi)
        · rcases Nat.lt_or_ge r (3 + 4 * j) with w | w
          · exact hg r w
          · exact q3 r w (by omega)
        · by_cases eb : b = j
          · subst eb
            rw [h29] at t1 t2 t3
            exact ⟨kd, t, o, ⟨b1, b2, b3⟩, ⟨t1, t2, t3⟩, by rw [e13, upd_at], by rw [e14, upd_at]⟩
          · obtain ⟨kd', t', o', w1, w2, w3, w4⟩ := hb b (by omega)
            exact ⟨kd', t', o', w1, w2, by rw [e13, upd_ne _ _ eb]; exact w3, by rw [e14, upd_ne _ _ eb]; exact w4⟩
theorem rh_s {n kk ii m : Nat} {S M : MS} (hkk : kk < 4) (hm : ii + m ≤ 60) (hat : ∀ p, p < m → fX6_at n kk (nI (ii + p)) S = some (M 29 (60 * kk + ii + p))) :
    rdF n kk ii m S M (fX9_readsHall (nI (60 * kk + ii)) (nI m) M) ∨ ∃ R W, (1 ≤ R ∧ R ≤ 4 ∧ 2 ≤ W ∧ W ≤ 6) ∧ (M 29 (60 * kk + ii + 1) = nI (48 + R) ∧ M 29 (60 * kk + ii + 2) = nI (48 + W)) ∧ rdT n kk ii m R W S M (fX9_readsHall (nI (60 * kk + ii)) (nI m) M) := by
  have hfr : 60 * kk + ii + m ≤ 240 := by omega
  have h90 : u2 (u2 M 9 0 0) 12 0 0 9 0 = nI 0 := by
    show upd (M 9) 0 0 0 = nI 0
    rw [upd_at]; rfl
  have noA : ∀ x, fX9_codeAt (nI (60 * kk + ii)) (nI m) (u2 (u2 M 9 0 0) 12 0 0) = some x → ¬ x = 97 → ∃ M', fX9_readsHall (nI (60 * kk + ii)) (nI m) M = some (0, M') ∧ M' 9 0 = nI 0 ∧ ∀ i, (i < 9 ∨ 14 < i) → M' i = M i := fun x hc hx => by
    unfold fX9_readsHall
    rw [hc, Option.bind_some, if_neg hx, if_pos (by show (-9 : Int32) ≤ 0; decide), if_pos (by show (-9 : Int32) ≤ 0; decide), rl_0 300 (by omega), zb0]
    refine ⟨_, rfl, ?_, fun i hi => ?_⟩
    · show u2 (u2 M 9 0 0) 12 0 0 9 0 + 0 = nI 0
      rw [Int32.add_zero]; exact h90
    · rw [u2_ne _ _ _ (by omega), u2_ne _ _ _ (by omega), u2_ne _ _ _ (by omega), u2_ne _ _ _ (by omega), u2_ne _ _ _ (by omega)]
  rcases Nat.lt_or_ge 0 m with h0 | h0
  · have hc : fX9_codeAt (nI (60 * kk + ii)) (nI m) (u2 (u2 M 9 0 0) 12 0 0) = some (M 29 (60 * kk + ii + 0)) := code_s h90 h0 hfr
    have g0 := go_0 (hat 0 h0)
    by_cases hx : M 29 (60 * kk + ii + 0) = 97
    · rw [if_pos hx] at g0
      rw [hx] at hc
      unfold fX9_readsHall
      rw [hc, Option.bind_some, if_pos rfl, h90, nI_1]
      have h91 : u2 (u2 (u2 M 9 0 0) 12 0 0) 9 0 (nI (0 + 1)) 9 0 = nI 1 := u2_rd _ _ _ _
      have f1 := fig_c (a := 1) (b := 4) h91 (show 1 ≤ m by omega) (by omega) hfr (by omega) (by omega)
      rw [show u2 (u2 (u2 M 9 0 0) 12 0 0) 9 0 (nI (0 + 1)) 29 = M 29 from rfl, u2_u2] at f1
      have bad1 : fX9_figure (nI (60 * kk + ii)) (nI m) (nI 1) (nI 4) (u2 (u2 (u2 M 9 0 0) 12 0 0) 9 0 (nI (0 + 1))) = some (-9, u2 (u2 (u2 M 9 0 0) 12 0 0) 9 0 (nI 1)) → fX8_firstFault n kk (nI ii) (nI m) S = some (nI 1) →
          rdF n kk ii m S M ((fX9_figure (nI (60 * kk + ii)) (nI m) (1 : Int32) (4 : Int32) (u2 (u2 (u2 M 9 0 0) 12 0 0) 9 0 (nI (0 + 1)))).bind fun r28 => (if ((u2 r28.2 10 0 r28.1) 10 0) ≤ 0 then (if ((u2 (u2 r28.2 10 0 r28.1) 11 0 (-9)) 11 0) ≤ 0 then (fX9_readsHall_104 300 (fun x32 M33 => (zb x32 (some (x32, M33)))) (nI (60 * kk + ii)) (nI m) (0 : Int32) (u2 (u2 r28.2 10 0 r28.1) 11 0 (-9))) else (fX9_readsHall_104 300 (fun x35 M36 => (zb x35 (some (x35, M36)))) (nI (60 * kk + ii)) (nI m) (1 : Int32) (u2 (u2 r28.2 10 0 r28.1) 11 0 (-9)))) else ((fX9_figure (nI (60 * kk + ii)) (nI m) (2 : Int32) (6 : Int32) (u2 r28.2 10 0 r28.1)).bind fun r38 => (if ((u2 r38.2 11 0 r38.1) 11 0) ≤ 0 then (fX9_readsHall_104 300 (fun x41 M42 => (zb x41 (some (x41, M42)))) (nI (60 * kk + ii)) (nI m) (0 : Int32) (u2 r38.2 11 0 r38.1)) else (fX9_readsHall_104 300 (fun x44 M45 => (zb x44 (some (x44, M45)))) (nI (60 * kk + ii)) (nI m) (1 : Int32) (u2 r38.2 11 0 r38.1)))))) := fun hf hff => by
        have hf' : fX9_figure (nI (60 * kk + ii)) (nI m) (1 : Int32) (4 : Int32) (u2 (u2 (u2 M 9 0 0) 12 0 0) 9 0 (nI (0 + 1))) = some (-9, u2 (u2 (u2 M 9 0 0) 12 0 0) 9 0 (nI 1)) := hf
        rw [hf', Option.bind_some]
        dsimp only
        rw [if_pos (by show (-9 : Int32) ≤ 0; decide), if_pos (by show (-9 : Int32) ≤ 0; decide), rl_0 300 (by omega), zb0]
        refine ⟨_, 1, rfl, ?_, hff, by omega, fun i hi => ?_⟩
        · exact u2_rd (u2 (u2 M 9 0 0) 12 0 0) 9 0 (nI 1)
        · rw [u2_ne _ _ _ (by omega), u2_ne _ _ _ (by omega), u2_ne _ _ _ (by omega), u2_ne _ _ _ (by omega), u2_ne _ _ _ (by omega)]
      rcases f1 with ⟨h1, R, hR1, hR4, hR, ham, hf⟩ | ⟨h1, ham, hf⟩ | ⟨h1, hf⟩
      · have hf' : fX9_figure (nI (60 * kk + ii)) (nI m) (1 : Int32) (4 : Int32) (u2 (u2 (u2 M 9 0 0) 12 0 0) 9 0 (nI (0 + 1))) = some (nI R, u2 (u2 (u2 M 9 0 0) 12 0 0) 9 0 (nI (1 + 1))) := hf
        rw [hf', Option.bind_some]
        dsimp only
        have g1 := go_1 (hat 1 h1)
        rw [ham] at g1
        rw [if_neg (by rw [u2_rd]; exact nI_nle (by omega) (by omega))]
        have h92 : u2 (u2 (u2 (u2 M 9 0 0) 12 0 0) 9 0 (nI (1 + 1))) 10 0 (nI R) 9 0 = nI 2 := u2_rd (u2 (u2 M 9 0 0) 12 0 0) 9 0 (nI (1 + 1))
        have f2 := fig_c (a := 2) (b := 6) h92 (show 2 ≤ m by omega) (by omega) hfr (by omega) (by omega)
        rw [show u2 (u2 (u2 (u2 M 9 0 0) 12 0 0) 9 0 (nI (1 + 1))) 10 0 (nI R) 29 = M 29 from rfl] at f2
        have bad2 : fX9_figure (nI (60 * kk + ii)) (nI m) (nI 2) (nI 6) (u2 (u2 (u2 (u2 M 9 0 0) 12 0 0) 9 0 (nI (1 + 1))) 10 0 (nI R)) = some (-9, u2 (u2 (u2 (u2 (u2 M 9 0 0) 12 0 0) 9 0 (nI (1 + 1))) 10 0 (nI R)) 9 0 (nI 2)) → fX8_firstFault n kk (nI ii) (nI m) S = some (nI 2) →
            rdF n kk ii m S M ((fX9_figure (nI (60 * kk + ii)) (nI m) (2 : Int32) (6 : Int32) (u2 (u2 (u2 (u2 M 9 0 0) 12 0 0) 9 0 (nI (1 + 1))) 10 0 (nI R))).bind fun r38 => (if ((u2 r38.2 11 0 r38.1) 11 0) ≤ 0 then (fX9_readsHall_104 300 (fun x41 M42 => (zb x41 (some (x41, M42)))) (nI (60 * kk + ii)) (nI m) (0 : Int32) (u2 r38.2 11 0 r38.1)) else (fX9_readsHall_104 300 (fun x44 M45 => (zb x44 (some (x44, M45)))) (nI (60 * kk + ii)) (nI m) (1 : Int32) (u2 r38.2 11 0 r38.1)))) := fun hf hff => by
          have hf' : fX9_figure (nI (60 * kk + ii)) (nI m) (2 : Int32) (6 : Int32) (u2 (u2 (u2 (u2 M 9 0 0) 12 0 0) 9 0 (nI (1 + 1))) 10 0 (nI R)) = some (-9, u2 (u2 (u2 (u2 (u2 M 9 0 0) 12 0 0) 9 0 (nI (1 + 1))) 10 0 (nI R)) 9 0 (nI 2)) := hf
          rw [hf', Option.bind_some]
          dsimp only
          rw [if_pos (by show (-9 : Int32) ≤ 0; decide), rl_0 300 (by omega), zb0]
          refine ⟨_, 2, rfl, ?_, hff, by omega, fun i hi => ?_⟩
          · exact u2_rd (u2 (u2 (u2 (u2 M 9 0 0) 12 0 0) 9 0 (nI (1 + 1))) 10 0 (nI R)) 9 0 (nI 2)
          · rw [u2_ne _ _ _ (by omega), u2_ne _ _ _ (by omega), u2_ne _ _ _ (by omega), u2_ne _ _ _ (by omega), u2_ne _ _ _ (by omega), u2_ne _ _ _ (by omega)]
        have hG : ∀ r, r < 2 → fX8_goesOn n kk (nI ii) (nI r) S = some 1 := fun r hr => by
          rcases (show r = 0 ∨ r = 1 by omega) with rfl | rfl
          · exact g0
          · exact g1
        rcases f2 with ⟨h2, W, hW2, hW6, hW, ham2, hf2⟩ | ⟨h2, ham2, hf2⟩ | ⟨h2, hf2⟩
        · have hf2' : fX9_figure (nI (60 * kk + ii)) (nI m) (2 : Int32) (6 : Int32) (u2 (u2 (u2 (u2 M 9 0 0) 12 0 0) 9 0 (nI (1 + 1))) 10 0 (nI R)) = some (nI W, u2 (u2 (u2 (u2 (u2 M 9 0 0) 12 0 0) 9 0 (nI (1 + 1))) 10 0 (nI R)) 9 0 (nI (2 + 1))) := hf2
          rw [hf2', Option.bind_some]
          dsimp only
          have g2 := go_2 (hat 2 h2)
          rw [ham2] at g2
          rw [if_neg (by rw [u2_rd]; exact nI_nle (by omega) (by omega))]
          have hRW : R * W ≤ 24 := Nat.le_trans (Nat.mul_le_mul hR4 hW6) (by decide)
          rcases rl_l (n := n) (S := S) (M0 := M) hkk hm hat hRW hR hW 7 300 0 (u2 (u2 (u2 (u2 (u2 (u2 M 9 0 0) 12 0 0) 9 0 (nI (1 + 1))) 10 0 (nI R)) 9 0 (nI (2 + 1))) 11 0 (nI W)) (by omega) (by omega) (by omega) (by omega) (by omega)
            (u2_rd (u2 (u2 (u2 (u2 M 9 0 0) 12 0 0) 9 0 (nI (1 + 1))) 10 0 (nI R)) 9 0 (nI (2 + 1))) (u2_rd (u2 (u2 (u2 M 9 0 0) 12 0 0) 9 0 (nI (1 + 1))) 10 0 (nI R)) (u2_rd _ _ _ _) (u2_rd (u2 M 9 0 0) 12 0 0)
            (fun r hr => by
              rcases (show r < 2 ∨ r = 2 by omega) with q | rfl
              · exact hG r q
              · exact g2) (fun b hb => absurd hb (Nat.not_lt_zero b)) (fun i hi => by
              rw [u2_ne _ _ _ (by omega), u2_ne _ _ _ (by omega), u2_ne _ _ _ (by omega), u2_ne _ _ _ (by omega), u2_ne _ _ _ (by omega), u2_ne _ _ _ (by omega)]) with w | w
          · exact Or.inl w
          · exact Or.inr ⟨R, W, ⟨hR1, hR4, hW2, hW6⟩, ⟨hR, hW⟩, w⟩
        · refine Or.inl (bad2 hf2 (ff_a (by omega) h2 hG ?_))
          rw [go_2 (hat 2 h2), ham2]
        · refine Or.inl (bad2 hf2 ?_)
          rw [ff_b (by omega) (by rw [← h2]; exact hG), if_pos (by omega), ← h2]
      · refine Or.inl (bad1 (by rw [u2_u2] at hf; exact hf) (ff_a (by omega) h1 (fun r hr => by rw [show r = 0 by omega]; exact g0) ?_))
        rw [go_1 (hat 1 h1), ham]
      · refine Or.inl (bad1 (by rw [u2_u2] at hf; exact hf) ?_)
        rw [ff_b (by omega) (fun r hr => by rw [show r = 0 by omega]; exact g0), if_pos (by omega), ← h1]
    · obtain ⟨M', w1, w2, w3⟩ := noA _ hc hx
      refine Or.inl ⟨M', 0, w1, w2, ff_a (by omega) h0 (fun r hr => by omega) ?_, by omega, w3⟩
      rw [g0, if_neg hx]
  · have e0 : m = 0 := by omega
    obtain ⟨M', w1, w2, w3⟩ := noA (-9) (code_e (by rw [h90, e0]) (by omega)) (by decide)
    refine Or.inl ⟨M', 0, w1, w2, ?_, by omega, w3⟩
    rw [ff_b (by omega) (fun r hr => by omega), if_pos (by omega), e0]
