/-! limits, seats, tellings -/
def lmt (kd w p : Nat) : Nat := if kd = 2 then min w p - 2 else min w p
theorem lmt_le (kd w p : Nat) : lmt kd w p ≤ w ∧ lmt kd w p ≤ p := by
  unfold lmt
  split <;> omega
theorem nI_ite_lt {a b : Nat} (ha : a < 2 ^ 31) (hb : b < 2 ^ 31) : (if nI b < nI a then nI b else nI a) = nI (min a b) := by
  by_cases h : b < a
  · rw [if_pos (nI_lt h ha), Nat.min_eq_right (by omega)]
  · rw [if_neg (nI_nlt (by omega) hb), Nat.min_eq_left (by omega)]
theorem nI_inj {a b : Nat} (ha : a < 2 ^ 31) (hb : b < 2 ^ 31) (h : nI a = nI b) : a = b := (nI_eq ha hb).mp h
theorem vlim_spec {kd w p : Nat} (hk : kd < 3) (hw : w ≤ 99) (hp : p ≤ 1000) : vlim (nI kd) (nI w) (nI p) = nI (lmt kd w p) := by
  unfold vlim fX1_limitBy fX4_limitBy
  rw [nI_ite_lt (a := w) (b := p) (by omega) (by omega)]
  rcases (show kd = 0 ∨ kd = 1 ∨ kd = 2 by omega) with rfl | rfl | rfl
  · rw [if_pos (show nI 0 = 0 from rfl)]; rfl
  · rw [if_neg (show ¬ nI 1 = 0 by decide), if_pos (show nI 1 = 1 from rfl)]; rfl
  · rw [if_neg (show ¬ nI 2 = 0 by decide), if_neg (show ¬ nI 2 = 1 by decide)]
    show (if 0 < nI (min w p) - 2 then nI (min w p) - 2 else 0) = nI (min w p - 2)
    rcases Nat.lt_or_ge 2 (min w p) with h | h
    · rw [show (2 : Int32) = nI 2 from rfl, pk_sub (by omega), if_pos]
      exact nI_lt (a := 0) (by omega) (by omega)
    · rw [show min w p - 2 = 0 by omega, if_neg]
      · rfl
      · intro q
        have := Int32.lt_iff_toInt_lt.mp q
        rw [show (2 : Int32) = nI 2 from rfl, pk_sub_toInt (by omega) (by decide), show (0 : Int32).toInt = 0 by decide] at this
        omega
theorem lesser_spec {a b : Nat} (ha : a < 2 ^ 31) (hb : b < 2 ^ 31) : fX9_lesser (nI a) (nI b) = nI (min a b) := by
  unfold fX9_lesser
  by_cases h : b ≤ a
  · rw [if_pos (nI_le h ha), Nat.min_eq_right h]
  · rw [if_neg (nI_ge (by omega) hb), Nat.min_eq_left (by omega)]
theorem idx4 (b lo : Nat) : (4 : Int32) * nI b + nI lo = nI (4 * b + lo) := by rw [show (4 : Int32) = nI 4 from rfl, pk_mul, nI_add]
theorem limitOf_spec {M : MS} {b lo kd w p : Nat} (hb : b < 6) (hlo : lo < 4) (hk : kd < 3) (hw : w ≤ 99) (hp : p ≤ 1000) (h4 : M 4 b = nI kd) (h5 : M 5 b = nI p) (h7 : M 7 (4 * b + lo) = nI w) : fX9_limitOf (nI b) (nI lo) M = some (nI (lmt kd w p)) := by
  unfold fX9_limitOf
  have c1 : (nI b).toNatClampNeg = b := nI_clamp (by omega)
  have c2 : (nI (4 * b + lo)).toNatClampNeg = 4 * b + lo := nI_clamp (by omega)
  simp only [idx4, gd_nI hb (show 6 < 2 ^ 31 by decide), gd_nI (show 4 * b + lo < 24 by omega) (show 24 < 2 ^ 31 by decide), c1, c2, h4, h5, h7, lesser_spec (show w < 2 ^ 31 by omega) (show p < 2 ^ 31 by omega)]
  rcases Nat.lt_or_ge kd 2 with h | h
  · rw [if_neg (show ¬ (2 : Int32) ≤ nI kd from nI_ge (b := 2) h (by decide))]
    unfold lmt
    rw [if_neg (by omega)]
  · rw [if_pos (show (2 : Int32) ≤ nI kd from nI_le (a := 2) h (by omega))]
    have e : kd = 2 := by omega
    unfold lmt
    rw [if_pos e]
    rcases Nat.lt_or_ge (min w p) 2 with h2 | h2
    · rw [if_neg (show ¬ (2 : Int32) ≤ nI (min w p) from nI_ge (b := 2) h2 (by decide)), show min w p - 2 = 0 by omega]; rfl
    · rw [if_pos (show (2 : Int32) ≤ nI (min w p) from nI_le (a := 2) h2 (by omega)), show (2 : Int32) = nI 2 from rfl, pk_sub h2]
theorem op_limit (n : Nat) (S M : MS) (a1 a2 : Int32) (h : Inv n S M) : ∃ q qm, gC_limit n a1 a2 S = some q ∧ gM_limit a1 a2 M = some qm ∧ q.1 = qm.1 ∧ Inv n q.2 qm.2 := by
  have hI := h
  obtain ⟨h1, h2, h3, g, k1, k2, k3⟩ := h
  have hn := k1.le6
  unfold gC_limit gM_limit fX8_limit fX9_limit
  rcases buy_c hn a1 k2.1.2.2.1 with ⟨b, hb, rfl, e1, e2⟩ | ⟨e1, e2⟩
  · rcases lot_c a2 with ⟨lo, hlo, rfl, e3, e4⟩ | ⟨e3, e4⟩
    · have c1 : (nI lo).toNatClampNeg = lo := nI_clamp (by omega)
      rcases k1 with c | c
      · omega
      have hb1 := c.2.2.1 b hb
      have hw1 := c.2.2.2.2.1 b lo hb hlo
      have m1 := k2.2.1 b hb
      have m2 := k2.2.2.1 b lo hb hlo
      have s1 := k3.2.1 b hb
      have s2 := k3.2.2.1 b lo hb hlo
      have hL := limitOf_spec (show b < 6 by omega) hlo hb1.1 hw1 (show g 2 b ≤ 1000 by omega) m1.1 m1.2.1 m2
      simp only [e1, e2, e3, e4, z10, om_some, ↓reduceIte, gd_nI hlo (show 4 < 2 ^ 31 by decide), c1, hL, Option.bind_some, Option.map_some, s1.1, s1.2.1, s2, vlim_spec hb1.1 hw1 (show g 2 b ≤ 1000 by omega)]
      exact ⟨_, _, rfl, rfl, rfl, hI⟩
    · simp only [e1, e2, e3, e4, z10, om_some, ↓reduceIte, Option.map_some]
      exact ⟨_, _, rfl, rfl, rfl, hI⟩
  · simp only [e1, e2, z10, om_none, ↓reduceIte, Option.map_some]
    exact ⟨_, _, rfl, rfl, rfl, hI⟩
/-! who sits in a seat -/
theorem sitterIn_l {M : MS} {n s : Nat} {se : Nat → Nat} {k : Unit → Option Int32} (hn : n ≤ 6) (h3 : M 3 0 = nI n) (h6 : ∀ b, b < n → M 6 b = nI (se b) ∧ se b < 100) (hs : s < 100) :
    ∀ d i fu, i + d = n → d < fu → (∀ b, b < i → se b ≠ s) → (fX9_sitterIn_2 fu k (nI s) (nI i) M = k () ∧ ∀ b, b < n → se b ≠ s) ∨ (∃ b, b < n ∧ se b = s ∧ fX9_sitterIn_2 fu k (nI s) (nI i) M = some (nI b)) := by
  intro d
  induction d with
  | zero =>
    intro i fu hi hf hb
    obtain ⟨f, rfl⟩ : ∃ f, fu = f + 1 := ⟨fu - 1, by omega⟩
    rw [fX9_sitterIn_2, h3, if_pos (nI_le (by omega) (by omega))]
    exact Or.inl ⟨rfl, fun b hb2 => hb b (by omega)⟩
  | succ d ih =>
    intro i fu hi hf hb
    obtain ⟨f, rfl⟩ : ∃ f, fu = f + 1 := ⟨fu - 1, by omega⟩
    have hin : i < n := by omega
    have hm := h6 i hin
    rw [fX9_sitterIn_2, h3, if_neg (nI_ge hin (by omega)), gd_nI (show i < 6 by omega) (by decide), nI_clamp (by omega), hm.1]
    by_cases e : se i = s
    · rw [if_pos (by rw [e])]
      exact Or.inr ⟨i, hin, e, rfl⟩
    · rw [if_neg (fun q => e (nI_inj (by omega) (by omega) q)), nI_1]
      exact ih (i + 1) f (by omega) (by omega) (fun b hb2 => by
        rcases Nat.lt_or_ge b i with q | q
        · exact hb b q
        · rw [show b = i by omega]; exact e)
theorem sitterIn_c {M : MS} {n s : Nat} {se : Nat → Nat} (hn : n ≤ 6) (h3 : M 3 0 = nI n) (h6 : ∀ b, b < n → M 6 b = nI (se b) ∧ se b < 100) (hs : s < 100) :
    (fX9_sitterIn (nI s) M = some (-9) ∧ ∀ b, b < n → se b ≠ s) ∨ (∃ b, b < n ∧ se b = s ∧ fX9_sitterIn (nI s) M = some (nI b)) :=
  sitterIn_l hn h3 h6 hs n 0 300 (by omega) (by omega) (fun b hb => absurd hb (Nat.not_lt_zero _))
theorem buyerOf_at {n i : Nat} (hn : n ≤ 6) (hi : i < n) : fX5_buyerOf n (nI i) = some i := by
  unfold fX5_buyerOf
  rw [below_nI (by omega) hi, if_neg (by decide), if_neg, nI_clamp (by omega)]
  exact nI_ge (b := 6) (by omega) (by decide)
theorem buyerOf_no {n i : Nat} (hn : n ≤ 6) (hi : n ≤ i) (h6 : i < 100) : fX5_buyerOf n (nI i) = none := by
  unfold fX5_buyerOf
  rw [below_no (by omega) (Or.inr (by rw [nI_toInt (by omega)]; omega)), if_pos rfl]
theorem isFree_l {S : MS} {n s j : Nat} {se : Nat → Nat} {k : Unit → Option Int32} (hn : n ≤ 6) (h6 : ∀ b, b < n → S 22 b = nI (se b) ∧ se b < 100) (hs : s < 100) :
    ∀ d i fu, i + d = 6 → d < fu → (∀ b, b < i → b < n → b ≠ j → se b ≠ s) → (fX5_isFreeFor_2 n fu k j (nI s) (nI i) S = k () ∧ ∀ b, b < n → b ≠ j → se b ≠ s) ∨ ((∃ b, b < n ∧ b ≠ j ∧ se b = s) ∧ fX5_isFreeFor_2 n fu k j (nI s) (nI i) S = some 0) := by
  intro d
  induction d with
  | zero =>
    intro i fu hi hf hb
    obtain ⟨f, rfl⟩ : ∃ f, fu = f + 1 := ⟨fu - 1, by omega⟩
    rw [fX5_isFreeFor_2, if_pos (show (6 : Int32) ≤ nI i from nI_le (a := 6) (by omega) (by omega))]
    exact Or.inl ⟨rfl, fun b hb2 => hb b (by omega) hb2⟩
  | succ d ih =>
    intro i fu hi hf hb
    obtain ⟨f, rfl⟩ : ∃ f, fu = f + 1 := ⟨fu - 1, by omega⟩
    rw [fX5_isFreeFor_2, if_neg (show ¬ (6 : Int32) ≤ nI i from nI_ge (b := 6) (by omega) (by decide)), nI_1]
    rcases Nat.lt_or_ge i n with hin | hin
    · have hm := h6 i hin
      rw [buyerOf_at hn hin, om_some]
      by_cases e0 : i = j
      · rw [if_pos e0]
        exact ih (i + 1) f (by omega) (by omega) (fun b hb2 hb3 hb4 => hb b (by omega) hb3 hb4)
      · rw [if_neg e0, hm.1]
        by_cases e : se i = s
        · rw [if_pos (by rw [e])]
          exact Or.inr ⟨⟨i, hin, e0, e⟩, rfl⟩
        · rw [if_neg (fun q => e (nI_inj (by omega) (by omega) q))]
          exact ih (i + 1) f (by omega) (by omega) (fun b hb2 hb3 hb4 => by
            rcases Nat.lt_or_ge b i with q | q
            · exact hb b q hb3 hb4
            · rw [show b = i by omega]; exact e)
    · rw [buyerOf_no hn hin (by omega), om_none]
      exact ih (i + 1) f (by omega) (by omega) (fun b hb2 hb3 hb4 => hb b (by omega) hb3 hb4)
theorem isFree_c {S : MS} {n s j : Nat} {se : Nat → Nat} (hn : n ≤ 6) (h6 : ∀ b, b < n → S 22 b = nI (se b) ∧ se b < 100) (hs : s < 100) :
    (fX5_isFreeFor n j (nI s) S = some 1 ∧ ∀ b, b < n → b ≠ j → se b ≠ s) ∨ ((∃ b, b < n ∧ b ≠ j ∧ se b = s) ∧ fX5_isFreeFor n j (nI s) S = some 0) :=
  isFree_l hn h6 hs 6 0 300 (by omega) (by omega) (fun b hb => absurd hb (Nat.not_lt_zero _))
theorem hOK.seats {n : Nat} {h : Nat → Nat → Nat} (k : hOK n h) : h 0 0 * h 0 1 ≤ 24 := by
  rcases k with k | k
  · rw [k.2.1]; omega
  · calc h 0 0 * h 0 1 ≤ 4 * 6 := Nat.mul_le_mul k.2.1.2.1 k.2.1.2.2.2.1
      _ ≤ 24 := by decide
theorem op_sit (n : Nat) (S M : MS) (a1 a2 : Int32) (h : Inv n S M) : ∃ q qm, gC_sit n a1 a2 S = some q ∧ gM_sit a1 a2 M = some qm ∧ q.1 = qm.1 ∧ Inv n q.2 qm.2 := by
  have hI := h
  obtain ⟨h1, h2, h3, g, k1, k2, k3⟩ := h
  have hn := k1.le6
  have hs24 := k1.seats
  unfold gC_sit gM_sit fX8_sit fX9_sit
  rcases buy_c hn a1 k2.1.2.2.1 with ⟨b, hb, rfl, e1, e2⟩ | ⟨e1, e2⟩
  · have hin : (((M 1 0) * (M 2 0)).toInt64 - 1).toInt = ((g 0 0 * g 0 1 : Nat) : Int) - 1 := by rw [k2.1.1, k2.1.2.1, pk_mul]; exact l1 (by omega)
    rcases rng_c a2 (N := g 0 0 * g 0 1) (by omega) with ⟨s, hs, rfl⟩ | hno
    · have e3 : fX9_noSeat (nI s) M = 0 := by unfold fX9_noSeat; rw [in_nI hin (by omega) hs, if_neg (by decide)]
      have e4 : fX8_isBelow (nI s) (S 10 1) = 1 := by rw [k3.1.1]; exact below_nI (by omega) hs
      rcases k1 with c | c
      · omega
      have hse : ∀ x, x < n → g 3 x < 100 := fun x hx => by have := (c.2.2.1 x hx).2.2; omega
      have c1 : (nI b).toNatClampNeg = b := nI_clamp (by omega)
      have keepit : (∀ x, x < n → x ≠ b → g 3 x ≠ s) → ∃ q qm, some ((S 22 b), (u2 S 22 b (nI s))) = some q ∧ some ((M 6 b), (u2 M 6 b (nI s))) = some qm ∧ q.1 = qm.1 ∧ Inv n q.2 qm.2 := by
        intro hfree
        refine ⟨_, _, rfl, rfl, (k3.2.1 b hb).2.2.trans (k2.2.1 b hb).2.2.symm, h1, h2, h3.keep (fun j _ hj => u2_ne _ _ _ (by omega)) rfl rfl rfl, hu g 3 b s, ?_, ?_, ?_⟩
        · refine Or.inr ⟨c.1, c.2.1, fun x hx => ⟨(c.2.2.1 x hx).1, (c.2.2.1 x hx).2.1, ?_⟩, fun x y hx hy exy => ?_, c.2.2.2.2⟩
          · show hu g 3 b s 3 x < g 0 0 * g 0 1
            by_cases e : x = b
            · subst e; rw [hu_at]; exact hs
            · rw [hu_ne _ e]; exact (c.2.2.1 x hx).2.2
          · by_cases ex : x = b
            · by_cases ey : y = b
              · omega
              · subst ex; rw [hu_at, hu_ne _ ey] at exy; exact absurd exy.symm (hfree y hy ey)
            · by_cases ey : y = b
              · subst ey; rw [hu_at, hu_ne _ ex] at exy; exact absurd exy (hfree x hx ex)
              · rw [hu_ne _ ex, hu_ne _ ey] at exy; exact c.2.2.2.1 x y hx hy exy
        · refine ⟨k2.1, fun x hx => ⟨(k2.2.1 x hx).1, (k2.2.1 x hx).2.1, ?_⟩, k2.2.2⟩
          show upd (M 6) b (nI s) x = _
          by_cases e : x = b
          · subst e; rw [upd_at, hu_at]
          · rw [upd_ne _ _ e, hu_ne _ e]; exact (k2.2.1 x hx).2.2
        · refine ⟨k3.1, fun x hx => ⟨(k3.2.1 x hx).1, (k3.2.1 x hx).2.1, ?_⟩, k3.2.2⟩
          show upd (S 22) b (nI s) x = _
          by_cases e : x = b
          · subst e; rw [upd_at, hu_at]
          · rw [upd_ne _ _ e, hu_ne _ e]; exact (k3.2.1 x hx).2.2
      rcases isFree_c (j := b) (s := s) hn (fun x hx => ⟨(k3.2.1 x hx).2.2, hse x hx⟩) (by omega) with ⟨f1, f2⟩ | ⟨⟨x, hx, hxb, hxs⟩, f1⟩
      · rcases sitterIn_c (s := s) hn k2.1.2.2.1 (fun x hx => ⟨(k2.2.1 x hx).2.2, hse x hx⟩) (by omega) with ⟨g1, g2⟩ | ⟨y, hy, hys, g1⟩
        · simp only [e1, e2, e3, e4, z10, om_some, ↓reduceIte, f1, g1, Option.bind_some, show ((-9 : Int32) < 0) from by decide, gd_nI (show b < 6 by omega) (show 6 < 2 ^ 31 by decide), c1]
          exact keepit f2
        · have eyb : y = b := Classical.byContradiction fun q => f2 y hy q hys
          subst eyb
          simp only [e1, e2, e3, e4, z10, om_some, ↓reduceIte, f1, g1, Option.bind_some, nI_pos (show y < 2 ^ 31 by omega), gd_nI (show y < 6 by omega) (show 6 < 2 ^ 31 by decide), c1]
          exact keepit f2
      · rcases sitterIn_c (s := s) hn k2.1.2.2.1 (fun x hx => ⟨(k2.2.1 x hx).2.2, hse x hx⟩) (by omega) with ⟨g1, g2⟩ | ⟨y, hy, hys, g1⟩
        · exact absurd hxs (g2 x hx)
        · have eyx : y = x := c.2.2.2.1 y x hy hx (by rw [hys, hxs])
          subst eyx
          have hne : ¬ nI y = nI b := fun q => hxb (nI_inj (by omega) (by omega) q)
          simp only [e1, e2, e3, e4, z10, om_some, ↓reduceIte, f1, g1, Option.bind_some, nI_pos (show y < 2 ^ 31 by omega), hne]
          exact ⟨_, _, rfl, rfl, rfl, hI⟩
    · have e3 : fX9_noSeat a2 M = 1 := by unfold fX9_noSeat; rw [in_no hin hno, if_pos rfl]
      have e4 : fX8_isBelow a2 (S 10 1) = 0 := by rw [k3.1.1]; exact below_no (by omega) hno
      simp only [e1, e2, e3, e4, z10, om_some, ↓reduceIte]
      exact ⟨_, _, rfl, rfl, rfl, hI⟩
  · simp only [e1, e2, z10, om_none, ↓reduceIte]
    exact ⟨_, _, rfl, rfl, rfl, hI⟩
/-! tellings -/
theorem kd_c {S M : MS} {n : Nat} {g : Nat → Nat → Nat} (k1 : hOK n g) (k2 : rM n g M) (k3 : rC n g S) {b : Nat} (hb : b < n) : (S 20 b = 0 ∧ M 4 b = 0) ∨ (S 20 b = 1 ∧ M 4 b = 1) ∨ (S 20 b = 2 ∧ M 4 b = 2) := by
  rcases k1 with c | c
  · omega
  have h := (c.2.2.1 b hb).1
  rw [(k3.2.1 b hb).1, (k2.2.1 b hb).1]
  rcases (show g 1 b = 0 ∨ g 1 b = 1 ∨ g 1 b = 2 by omega) with e | e | e
  · rw [e]; exact Or.inl ⟨rfl, rfl⟩
  · rw [e]; exact Or.inr (Or.inl ⟨rfl, rfl⟩)
  · rw [e]; exact Or.inr (Or.inr ⟨rfl, rfl⟩)
theorem Inv.trace {n : Nat} {S M : MS} (h : Inv n S M) (x : Int32) : Inv n (u2 S 9 0 x) (u2 M 31 0 x) := by
  obtain ⟨h1, h2, h3, g, k1, k2, k3⟩ := h
  exact ⟨h1, rfl, h3.keep (fun j _ hj => u2_ne _ _ _ (by omega)) rfl rfl rfl, g, k1, k2, k3⟩
theorem op_nod (n : Nat) (S M : MS) (a : Int32) (h : Inv n S M) : ∃ q qm, gC_nod n a S = some q ∧ gM_nod a M = some qm ∧ q.1 = qm.1 ∧ Inv n q.2 qm.2 := by
  have hI := h
  obtain ⟨h1, h2, h3, g, k1, k2, k3⟩ := h
  have hn := k1.le6
  unfold gC_nod gM_nod fX8_nod fX9_nod
  rcases buy_c hn a k2.1.2.2.1 with ⟨b, hb, rfl, e1, e2⟩ | ⟨e1, e2⟩
  · have c1 : (nI b).toNatClampNeg = b := nI_clamp (by omega)
    have mt : ∀ x : Int32, u2 M 31 0 x 4 b = M 4 b := fun x => rfl
    simp only [e1, e2, om_some, ↓reduceIte, gd_nI (show b < 6 by omega) (show 6 < 2 ^ 31 by decide), c1, vnod, fX1_nodding, fX4_nodding, fX7_leave, fX9_traced, mt]
    rcases kd_c k1 k2 k3 hb with ⟨s1, m1⟩ | ⟨s1, m1⟩ | ⟨s1, m1⟩
    · simp only [s1, m1, ↓reduceIte, show ¬ (0 : Int32) = 2 from by decide]
      rw [h2]
      exact ⟨_, _, rfl, rfl, rfl, hI.trace _⟩
    · simp only [s1, m1, ↓reduceIte, show ¬ (1 : Int32) = 2 from by decide, z10]
      rw [h2]
      exact ⟨_, _, rfl, rfl, rfl, hI.trace _⟩
    · simp only [s1, m1, ↓reduceIte, show ¬ (2 : Int32) = 0 from by decide, show ¬ (2 : Int32) = 1 from by decide]
      rw [h2]
      exact ⟨_, _, rfl, rfl, rfl, hI.trace _⟩
  · simp only [e1, e2, z10, om_none, ↓reduceIte]
    exact ⟨_, _, rfl, rfl, rfl, hI⟩
