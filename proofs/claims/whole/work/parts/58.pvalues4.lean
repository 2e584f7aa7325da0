/-! values: the classes' loop -/
theorem rsF_k {ow : Nat → Bool} {p : Int32} {c0 : Nat} (hp : nI c0 = p) : ∀ d v c x, c0 < c → c + d < 2 ^ 31 → (rsF ow p d v c x).1 = x := by
  intro d
  induction d with
  | zero => intro v c x _ _; rfl
  | succ d ih =>
    intro v c x h1 h2
    rw [rsF]
    have hne : ¬ nI c = p := fun w => by
      have := (nI_eq (by omega) (by omega)).mp (w.trans hp.symm)
      omega
    rw [if_neg hne]
    split
    · exact ih (v + 1) (c + 1) x (by omega) (by omega)
    · exact ih (v + 1) c x (by omega) (by omega)
theorem valC_l {n : Nat} {h : Nat → Nat → Nat} {j lo : Nat} {p : Int32} {k : Int32 → MS → Option (Int32 × MS)} (k1 : hOK n h) (h2n : 2 ≤ n) (hlo : lo < 4) (hj : j < n) :
    ∀ d v fu (S : MS) (c : Nat) (v6 v7 : Int32), v + d = 100 → d < fu → c ≤ v → rC n h S → (v6 = -9 ∨ ∃ v', v6 = nI (lmt (h 1 j) v' (h 2 j)) ∧ v7 = if ownB n h j lo v' = true then 1 else 0) →
      ∃ S', (∀ i, (i ≤ 10 ∨ 16 < i) → S' i = S i) ∧ ((fX8_values_55 n fu k (nI j) (nI lo) p j (nI c) v6 v7 1 (nI v) S = some ((rsF (fun v => ownB n h j lo v) p d v c (-9)).1, S') ∧ 0 ≤ p) ∨ (fX8_values_55 n fu k (nI j) (nI lo) p j (nI c) v6 v7 1 (nI v) S = k (nI (rsF (fun v => ownB n h j lo v) p d v c (-9)).2) S' ∧ (rsF (fun v => ownB n h j lo v) p d v c (-9)).1 = -9)) := by
  have hn := k1.le6
  have cc := (k1.big h2n).2.2.1 j hj
  intro d
  induction d with
  | zero =>
    intro v fu S c v6 v7 hv hf hc k3 hca
    obtain ⟨f, rfl⟩ : ∃ f, fu = f + 1 := ⟨fu - 1, by omega⟩
    refine ⟨S, fun _ _ => rfl, Or.inr ⟨?_, rfl⟩⟩
    rw [fX8_values_55, if_neg z10, if_pos (show (99 : Int32) < nI v from nI_lt (a := 99) (by omega) (by omega))]
    rfl
  | succ d ih =>
    intro v fu S c v6 v7 hv hf hc k3 hca
    obtain ⟨f, rfl⟩ : ∃ f, fu = f + 1 := ⟨fu - 1, by omega⟩
    have hv99 : v ≤ 99 := by omega
    have hlim : vlim (S 20 j) (nI v) (S 21 j) = nI (lmt (h 1 j) v (h 2 j)) := by
      rw [(k3.2.1 j hj).1, (k3.2.1 j hj).2.1]
      exact vlim_spec cc.1 hv99 (by have := cc.2.1; omega)
    have hl99 := (lmt_le (h 1 j) v (h 2 j)).1
    have step : ∃ S1, (∀ i, (i ≤ 10 ∨ 16 < i) → S1 i = S i) ∧ fX8_values_55 n (f + 1) k (nI j) (nI lo) p j (nI c) v6 v7 1 (nI v) S = (if ownB n h j lo v = true then (if nI c = p then some (nI v, S1) else fX8_values_55 n f k (nI j) (nI lo) p j (nI (c + 1)) (nI (lmt (h 1 j) v (h 2 j))) 1 1 (nI (v + 1)) S1) else fX8_values_55 n f k (nI j) (nI lo) p j (nI c) (nI (lmt (h 1 j) v (h 2 j))) 0 1 (nI (v + 1)) S1) := by
      by_cases e6 : nI (lmt (h 1 j) v (h 2 j)) = v6
      · have h7 : v7 = if ownB n h j lo v = true then 1 else 0 := by
          rcases hca with q | ⟨v', q1, q2⟩
          · exact absurd (e6.trans q) (m9_ne (by omega))
          · have hl' := (lmt_le (h 1 j) v' (h 2 j)).2
            have := cc.2.1
            have e := (nI_eq (by omega) (by omega)).mp (e6.trans q1)
            rw [q2, own_lim e]
        refine ⟨S, fun _ _ => rfl, ?_⟩
        rw [fX8_values_55, if_neg z10, if_neg (show ¬ (99 : Int32) < nI v from nI_nlt (a := 99) hv99 (by decide)), hlim, if_pos e6, nI_1, nI_1, show nI c + 0 = nI c from nI_add c 0, h7, ← e6]
        by_cases eo : ownB n h j lo v = true
        · simp only [eo, z10, ↓reduceIte]
        · simp only [eo, Bool.false_eq_true, ↓reduceIte]
      · obtain ⟨S1, w1, w2⟩ := rdSo_s (v := v) k1 k3 h2n hlo hj hv99
        refine ⟨S1, w2, ?_⟩
        rw [fX8_values_55, if_neg z10, if_neg (show ¬ (99 : Int32) < nI v from nI_nlt (a := 99) hv99 (by decide)), hlim, if_neg e6, w1, Option.bind_some, nI_1, nI_1, show nI c + 0 = nI c from nI_add c 0]
        by_cases eo : ownB n h j lo v = true
        · simp only [eo, z10, ↓reduceIte]
        · simp only [eo, Bool.false_eq_true, ↓reduceIte]
    obtain ⟨S1, s1, s2⟩ := step
    have k3' := k3.cg (eqC_of s1)
    rw [s2, rsF]
    by_cases eo : ownB n h j lo v = true
    · rw [if_pos eo, if_pos eo]
      by_cases ec : nI c = p
      · rw [if_pos ec, if_pos ec]
        refine ⟨S1, s1, Or.inl ⟨?_, by rw [← ec]; exact nI_pos' (by omega)⟩⟩
        rw [rsF_k ec d (v + 1) (c + 1) (nI v) (by omega) (by omega)]
      · rw [if_neg ec, if_neg ec]
        obtain ⟨S', z1, z2⟩ := ih (v + 1) f S1 (c + 1) (nI (lmt (h 1 j) v (h 2 j))) 1 (by omega) (by omega) (by omega) k3' (Or.inr ⟨v, rfl, by rw [if_pos eo]⟩)
        exact ⟨S', fun i hi => (z1 i hi).trans (s1 i hi), z2⟩
    · rw [if_neg eo, if_neg eo]
      obtain ⟨S', z1, z2⟩ := ih (v + 1) f S1 c (nI (lmt (h 1 j) v (h 2 j))) 0 (by omega) (by omega) (by omega) k3' (Or.inr ⟨v, rfl, by rw [if_neg eo]⟩)
      exact ⟨S', fun i hi => (z1 i hi).trans (s1 i hi), z2⟩
