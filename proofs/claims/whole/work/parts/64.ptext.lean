/-! the text of a hall: codes and digits on both sides -/
theorem am_c (x : Int32) {a b : Nat} (hb : b ≤ 9) : (∃ v, a ≤ v ∧ v ≤ b ∧ x = nI (48 + v) ∧ fX8_isAmong x (nI (48 + a)) (nI (48 + b)) = 1 ∧ fX9_in ((x - 48).toInt64) ((nI a).toInt64) ((nI b).toInt64) = 1) ∨
    (¬ (48 + (a : Int) ≤ x.toInt ∧ x.toInt ≤ 48 + (b : Int)) ∧ (a ≤ 9 → fX8_isAmong x (nI (48 + a)) (nI (48 + b)) = 0 ∧ fX9_in ((x - 48).toInt64) ((nI a).toInt64) ((nI b).toInt64) = 0)) := by
  by_cases h : 48 + (a : Int) ≤ x.toInt ∧ x.toInt ≤ 48 + (b : Int)
  · have hx : ¬ x < 0 := fun q => by
      have := (lt0_iff x).mp q
      omega
    obtain ⟨j, hj, rfl⟩ := nI_of hx
    rw [nI_toInt hj] at h
    refine Or.inl ⟨j - 48, by omega, by omega, by rw [show 48 + (j - 48) = j by omega], ?_, ?_⟩
    · unfold fX8_isAmong
      rw [if_neg (nI_nlt (by omega) (by omega)), if_neg (nI_nlt (by omega) (by omega))]
    · rw [show (48 : Int32) = nI 48 from rfl, pk_sub (by omega), in_spec, t64, t64, t64, nI_toInt (by omega), nI_toInt (by omega), nI_toInt (by omega), if_pos (by omega)]
  · refine Or.inr ⟨h, fun ha => ⟨?_, ?_⟩⟩
    · unfold fX8_isAmong
      by_cases h1 : x < nI (48 + a)
      · rw [if_pos h1]
      · rw [if_neg h1, if_pos]
        have h2 : ¬ x.toInt < (48 + a : Nat) := fun q => h1 (Int32.lt_iff_toInt_lt.mpr (by rw [nI_toInt (by omega)]; exact q))
        rw [Int32.lt_iff_toInt_lt, nI_toInt (by omega)]
        omega
    · have a1 := Int32.toInt_lt x
      have a2 := Int32.le_toInt x
      have hs : (x - 48).toInt = (x.toInt - 48).bmod (2 ^ 32) := by
        rw [Int32.toInt_sub, show (48 : Int32).toInt = 48 by decide]
      rw [in_spec, t64, t64, t64, nI_toInt (by omega), nI_toInt (by omega), hs, Int.bmod_def, if_neg]
      split <;> omega
theorem code_s {fr m p : Nat} {M : MS} (h9 : M 9 0 = nI p) (hp : p < m) (hfr : fr + m ≤ 240) : fX9_codeAt (nI fr) (nI m) M = some (M 29 (fr + p)) := by
  unfold fX9_codeAt
  rw [h9, if_neg (nI_ge hp (by omega)), nI_add, gd_nI (show fr + p < 240 by omega) (by decide), nI_clamp (by omega)]
theorem code_e {fr m : Nat} {M : MS} (h9 : M 9 0 = nI m) (hm : m < 2 ^ 31) : fX9_codeAt (nI fr) (nI m) M = some (-9) := by
  unfold fX9_codeAt
  rw [h9, if_pos (nI_le (Nat.le_refl _) hm)]
theorem fig_t {p1 p2 a b x : Int32} {M : MS} {p : Nat} (h9 : M 9 0 = nI p) (hc : fX9_codeAt p1 p2 M = some x) (hi : fX9_in ((x - 48).toInt64) (a.toInt64) (b.toInt64) = 1) : fX9_figure p1 p2 a b M = some (x - 48, u2 M 9 0 (nI (p + 1))) := by
  unfold fX9_figure
  rw [hc, Option.bind_some, hi, if_neg z10, if_neg z10, h9, nI_1]
theorem fig_f {p1 p2 a b x : Int32} {M : MS} {p : Nat} (h9 : M 9 0 = nI p) (hc : fX9_codeAt p1 p2 M = some x) (hi : fX9_in ((x - 48).toInt64) (a.toInt64) (b.toInt64) = 0) : fX9_figure p1 p2 a b M = some (-9, u2 M 9 0 (nI p)) := by
  unfold fX9_figure
  rw [hc, Option.bind_some, hi, if_pos rfl, if_pos rfl, h9, Int32.add_zero]
/-- a digit, on both sides: at the end of the text, or not a digit, or one -/
theorem fig_c {fr m p a b : Nat} {M : MS} (h9 : M 9 0 = nI p) (hp : p ≤ m) (hm : m ≤ 60) (hfr : fr + m ≤ 240) (ha : a ≤ 9) (hb : b ≤ 9) :
    (p < m ∧ ∃ v, a ≤ v ∧ v ≤ b ∧ M 29 (fr + p) = nI (48 + v) ∧ fX8_isAmong (M 29 (fr + p)) (nI (48 + a)) (nI (48 + b)) = 1 ∧ fX9_figure (nI fr) (nI m) (nI a) (nI b) M = some (nI v, u2 M 9 0 (nI (p + 1)))) ∨
    (p < m ∧ fX8_isAmong (M 29 (fr + p)) (nI (48 + a)) (nI (48 + b)) = 0 ∧ fX9_figure (nI fr) (nI m) (nI a) (nI b) M = some (-9, u2 M 9 0 (nI p))) ∨
    (p = m ∧ fX9_figure (nI fr) (nI m) (nI a) (nI b) M = some (-9, u2 M 9 0 (nI p))) := by
  rcases Nat.lt_or_ge p m with h | h
  · have hc := code_s h9 h hfr
    rcases am_c (M 29 (fr + p)) (a := a) hb with ⟨v, q1, q2, q3, q4, q5⟩ | ⟨_, q⟩
    · refine Or.inl ⟨h, v, q1, q2, q3, q4, ?_⟩
      rw [fig_t h9 hc q5, q3, show (48 : Int32) = nI 48 from rfl, pk_sub (by omega), show 48 + v - 48 = v by omega]
    · exact Or.inr (Or.inl ⟨h, (q ha).1, fig_f h9 hc (q ha).2⟩)
  · have e : p = m := by omega
    subst e
    refine Or.inr (Or.inr ⟨rfl, ?_⟩)
    have hc := code_e (fr := fr) h9 (by omega)
    rcases am_c (-9) (a := a) hb with ⟨v, q1, q2, q3, q4, q5⟩ | ⟨_, q⟩
    · exact absurd q3.symm (m9_ne (by omega))
    · exact fig_f h9 hc (q ha).2
/-! how a text goes on: the classes -/
theorem go_0 {n kk ii : Nat} {S : MS} {x : Int32} (hat : fX6_at n kk (nI (ii + 0)) S = some x) : fX8_goesOn n kk (nI ii) (nI 0) S = if x = 97 then some 1 else some 0 := by
  unfold fX8_goesOn
  rw [nI_add, hat, Option.bind_some, if_pos (show nI 0 = 0 from rfl)]
theorem go_1 {n kk ii : Nat} {S : MS} {x : Int32} (hat : fX6_at n kk (nI (ii + 1)) S = some x) : fX8_goesOn n kk (nI ii) (nI 1) S = some (fX8_isAmong x (nI (48 + 1)) (nI (48 + 4))) := by
  unfold fX8_goesOn
  rw [nI_add, hat, Option.bind_some, if_neg (show ¬ nI 1 = 0 by decide), if_pos (show nI 1 = 1 from rfl)]
  rfl
theorem go_2 {n kk ii : Nat} {S : MS} {x : Int32} (hat : fX6_at n kk (nI (ii + 2)) S = some x) : fX8_goesOn n kk (nI ii) (nI 2) S = some (fX8_isAmong x (nI (48 + 2)) (nI (48 + 6))) := by
  unfold fX8_goesOn
  rw [nI_add, hat, Option.bind_some, if_neg (show ¬ nI 2 = 0 by decide), if_neg (show ¬ nI 2 = 1 by decide), if_pos (show nI 2 = 2 from rfl)]
  rfl
theorem ne_k {r k : Nat} (hr : r < 2 ^ 31) (hk : k < 2 ^ 31) (h : r ≠ k) : ¬ nI r = nI k := fun q => h ((nI_eq hr hk).mp q)
theorem rem_s {j t : Nat} (ht : t < 4) (hj : j < 1000) : (nI (3 + 4 * j + t) - 3) - (nI (3 + 4 * j + t) - 3) / 4 * 4 = nI t := by
  rw [show (3 : Int32) = nI 3 from rfl, show (4 : Int32) = nI 4 from rfl, pk_sub (by omega), pk_rem (by omega) (by decide) (by decide), show (3 + 4 * j + t - 3) % 4 = t by omega]
theorem quo_s {j : Nat} (hj : j < 1000) : (nI (3 + 4 * j) - 3) / 4 = nI j := by
  rw [show (3 : Int32) = nI 3 from rfl, show (4 : Int32) = nI 4 from rfl, pk_sub (by omega), pk_div (by omega) (by decide) (by decide), show (3 + 4 * j - 3) / 4 = j by omega]
theorem go_3 {n kk ii j R W : Nat} {S : MS} {x : Int32} (hj : j < 1000) (hRW : R * W < 1000) (hat : fX6_at n kk (nI (ii + (3 + 4 * j))) S = some x) (h1 : fX6_at n kk (nI (ii + 1)) S = some (nI (48 + R))) (h2 : fX6_at n kk (nI (ii + 2)) S = some (nI (48 + W))) :
    fX8_goesOn n kk (nI ii) (nI (3 + 4 * j)) S = if x = 59 ∧ j < 6 ∧ j < R * W then some 1 else some 0 := by
  unfold fX8_goesOn
  have hr := rem_s (t := 0) (by decide) hj
  rw [Nat.add_zero] at hr
  rw [nI_add, hat, Option.bind_some, if_neg (show ¬ nI (3 + 4 * j) = 0 from ne_k (k := 0) (by omega) (by decide) (by omega)), if_neg (show ¬ nI (3 + 4 * j) = 1 from ne_k (k := 1) (by omega) (by decide) (by omega)), if_neg (show ¬ nI (3 + 4 * j) = 2 from ne_k (k := 2) (by omega) (by decide) (by omega)), hr, if_pos (show nI 0 = 0 from rfl)]
  by_cases hx : x = 59
  · rw [if_pos hx]
    unfold fX8_isOneMoreLetIn fX8_digitAt
    rw [nI_1, show nI ii + 2 = nI (ii + 2) from nI_add ii 2, h1, h2, quo_s hj, Option.bind_some, Option.bind_some, Option.bind_some, Option.bind_some, show (48 : Int32) = nI 48 from rfl, pk_sub (by omega), pk_sub (by omega), show 48 + R - 48 = R by omega, show 48 + W - 48 = W by omega, pk_mul]
    by_cases h6 : j < 6
    · rw [if_neg (show ¬ (6 : Int32) ≤ nI j from nI_ge (b := 6) h6 (by decide))]
      by_cases h7 : j < R * W
      · rw [if_neg (nI_ge h7 (by omega)), Option.bind_some, if_neg z10, if_pos ⟨hx, h6, h7⟩]
      · rw [if_pos (nI_le (by omega) (by omega)), Option.bind_some, if_pos rfl, if_neg (fun w => h7 w.2.2)]
    · rw [if_pos (show (6 : Int32) ≤ nI j from nI_le (a := 6) (by omega) (by omega)), Option.bind_some, if_pos rfl, if_neg (fun w => h6 w.2.1)]
  · rw [if_neg hx, if_neg (fun w => hx w.1)]
theorem go_4 {n kk ii j : Nat} {S : MS} {x : Int32} (hj : j < 1000) (hat : fX6_at n kk (nI (ii + (3 + 4 * j + 1))) S = some x) :
    fX8_goesOn n kk (nI ii) (nI (3 + 4 * j + 1)) S = if x = 98 then some 1 else if x = 104 then some 1 else if x = 110 then some 1 else some 0 := by
  unfold fX8_goesOn
  rw [nI_add, hat, Option.bind_some, if_neg (show ¬ nI (3 + 4 * j + 1) = 0 from ne_k (k := 0) (by omega) (by decide) (by omega)), if_neg (show ¬ nI (3 + 4 * j + 1) = 1 from ne_k (k := 1) (by omega) (by decide) (by omega)), if_neg (show ¬ nI (3 + 4 * j + 1) = 2 from ne_k (k := 2) (by omega) (by decide) (by omega)), rem_s (by decide) hj, if_neg (show ¬ nI 1 = 0 by decide), if_pos (show nI 1 = 1 from rfl)]
theorem go_5 {n kk ii j : Nat} {S : MS} {x : Int32} (hj : j < 1000) (hat : fX6_at n kk (nI (ii + (3 + 4 * j + 2))) S = some x) :
    fX8_goesOn n kk (nI ii) (nI (3 + 4 * j + 2)) S = some (fX8_isAmong x (nI (48 + 0)) (nI (48 + 9))) := by
  unfold fX8_goesOn
  rw [nI_add, hat, Option.bind_some, if_neg (show ¬ nI (3 + 4 * j + 2) = 0 from ne_k (k := 0) (by omega) (by decide) (by omega)), if_neg (show ¬ nI (3 + 4 * j + 2) = 1 from ne_k (k := 1) (by omega) (by decide) (by omega)), if_neg (show ¬ nI (3 + 4 * j + 2) = 2 from ne_k (k := 2) (by omega) (by decide) (by omega)), rem_s (by decide) hj, if_neg (show ¬ nI 2 = 0 by decide), if_neg (show ¬ nI 2 = 1 by decide), if_pos (show nI 2 = 2 from rfl)]
  rfl
theorem go_6 {n kk ii j : Nat} {S : MS} {x y : Int32} (hj : j < 1000) (hat : fX6_at n kk (nI (ii + (3 + 4 * j + 3))) S = some x) (hy : fX6_at n kk (nI (ii + (3 + 4 * j + 2))) S = some y) :
    fX8_goesOn n kk (nI ii) (nI (3 + 4 * j + 3)) S = if y = 48 then some (fX8_isAmong x (nI (48 + 1)) (nI (48 + 9))) else some (fX8_isAmong x (nI (48 + 0)) (nI (48 + 9))) := by
  unfold fX8_goesOn
  rw [nI_add, hat, Option.bind_some, if_neg (show ¬ nI (3 + 4 * j + 3) = 0 from ne_k (k := 0) (by omega) (by decide) (by omega)), if_neg (show ¬ nI (3 + 4 * j + 3) = 1 from ne_k (k := 1) (by omega) (by decide) (by omega)), if_neg (show ¬ nI (3 + 4 * j + 3) = 2 from ne_k (k := 2) (by omega) (by decide) (by omega)), rem_s (by decide) hj, if_neg (show ¬ nI 3 = 0 by decide), if_neg (show ¬ nI 3 = 1 by decide), if_neg (show ¬ nI 3 = 2 by decide),
    show nI (ii + (3 + 4 * j + 3)) - 1 = nI (ii + (3 + 4 * j + 2)) from nI_pred (ii + (3 + 4 * j + 2)), hy, Option.bind_some]
  rfl
/-! the first fault -/
theorem ff_l {n kk ii m q : Nat} {S : MS} {k : Unit → Option Int32} (hm : m ≤ 60) (hq : q < m) (h0 : fX8_goesOn n kk (nI ii) (nI q) S = some 0) :
    ∀ d p fu, p + d = q → d < fu → (∀ r, p ≤ r → r < q → fX8_goesOn n kk (nI ii) (nI r) S = some 1) → fX8_firstFault_2 n fu k kk (nI ii) (nI m) (nI p) S = some (nI q) := by
  intro d
  induction d with
  | zero =>
    intro p fu hp hf _
    obtain ⟨f, rfl⟩ : ∃ f, fu = f + 1 := ⟨fu - 1, by omega⟩
    rw [fX8_firstFault_2, if_neg (nI_ge (by omega) (by omega)), show p = q by omega, h0, Option.bind_some, if_pos rfl]
  | succ d ih =>
    intro p fu hp hf hg
    obtain ⟨f, rfl⟩ : ∃ f, fu = f + 1 := ⟨fu - 1, by omega⟩
    rw [fX8_firstFault_2, if_neg (nI_ge (by omega) (by omega)), hg p (Nat.le_refl _) (by omega), Option.bind_some, if_neg z10, nI_1]
    exact ih (p + 1) f (by omega) (by omega) (fun r h1 h2 => hg r (by omega) h2)
theorem ff_a {n kk ii m q : Nat} {S : MS} (hm : m ≤ 60) (hq : q < m) (hg : ∀ r, r < q → fX8_goesOn n kk (nI ii) (nI r) S = some 1) (h0 : fX8_goesOn n kk (nI ii) (nI q) S = some 0) : fX8_firstFault n kk (nI ii) (nI m) S = some (nI q) :=
  ff_l (k := fun (_ : Unit) => (if nI m < 11 then (some (nI m)) else (if ((nI m - 3) - (nI m - 3) / 4 * 4) = 0 then (some (-1)) else (some (nI m))))) hm hq h0 q 0 300 (by omega) (by omega) (fun r _ h => hg r h)
theorem fe_l {n kk ii m : Nat} {S : MS} {k : Unit → Option Int32} (hm : m ≤ 60) :
    ∀ d p fu, p + d = m → d < fu → (∀ r, p ≤ r → r < m → fX8_goesOn n kk (nI ii) (nI r) S = some 1) → fX8_firstFault_2 n fu k kk (nI ii) (nI m) (nI p) S = k () := by
  intro d
  induction d with
  | zero =>
    intro p fu hp hf _
    obtain ⟨f, rfl⟩ : ∃ f, fu = f + 1 := ⟨fu - 1, by omega⟩
    rw [fX8_firstFault_2, if_pos (nI_le (by omega) (by omega))]
  | succ d ih =>
    intro p fu hp hf hg
    obtain ⟨f, rfl⟩ : ∃ f, fu = f + 1 := ⟨fu - 1, by omega⟩
    rw [fX8_firstFault_2, if_neg (nI_ge (by omega) (by omega)), hg p (Nat.le_refl _) (by omega), Option.bind_some, if_neg z10, nI_1]
    exact ih (p + 1) f (by omega) (by omega) (fun r h1 h2 => hg r (by omega) h2)
theorem ff_b {n kk ii m : Nat} {S : MS} (hm : m ≤ 60) (hg : ∀ r, r < m → fX8_goesOn n kk (nI ii) (nI r) S = some 1) : fX8_firstFault n kk (nI ii) (nI m) S = if m < 11 ∨ (m - 3) % 4 ≠ 0 then some (nI m) else some (-1) := by
  have h := fe_l (n := n) (kk := kk) (ii := ii) (S := S) (k := fun (_ : Unit) => (if nI m < 11 then (some (nI m)) else (if ((nI m - 3) - (nI m - 3) / 4 * 4) = 0 then (some (-1)) else (some (nI m))))) hm m 0 300 (by omega) (by omega) (fun r _ h => hg r h)
  refine Eq.trans h ?_
  by_cases h1 : m < 11
  · rw [if_pos (show nI m < 11 from nI_lt (b := 11) h1 (by decide)), if_pos (Or.inl h1)]
  · rw [if_neg (show ¬ nI m < 11 from nI_nlt (b := 11) (by omega) (by omega)), show (3 : Int32) = nI 3 from rfl, show (4 : Int32) = nI 4 from rfl, pk_sub (by omega), pk_rem (by omega) (by decide) (by decide)]
    by_cases h2 : (m - 3) % 4 = 0
    · rw [h2, if_pos (show nI 0 = 0 from rfl), if_neg (by omega)]
    · rw [if_neg (show ¬ nI ((m - 3) % 4) = 0 from ne_k (k := 0) (by omega) (by decide) h2), if_pos (Or.inr h2)]
