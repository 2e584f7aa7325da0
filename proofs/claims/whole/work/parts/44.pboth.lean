/-! a whole sale on both sides -/
theorem lnC.cg {n : Nat} {S : MS} {pl pl' : Nat → Nat} (h : lnC n S pl) (e : ∀ b, b < n → pl' b = pl b) : lnC n S pl' := by
  obtain ⟨m, L, l1, l2, l3, l4, l5⟩ := h
  refine ⟨m, L, l1, l2, fun i hi => ⟨(l3 i hi).1, (l3 i hi).2.1, by rw [e _ (l3 i hi).2.1]; exact (l3 i hi).2.2⟩, fun i j hij hj => ?_, fun b hb hb2 => l5 b hb (by rw [← e b hb]; exact hb2)⟩
  rw [e _ (l3 i (by omega)).2.1, e _ (l3 j hj).2.1]
  exact l4 i j hij hj
theorem tk_cg {n m s : Nat} {pl pl' : Nat → Nat} (hnm : n ≤ m) (e : ∀ b, b < n → pl' b = pl b) (ho : ∀ b, n ≤ b → b < m → pl b ≠ s) : tkB m pl s = tkB n pl' s := by
  have key : tkB m pl s = true ↔ tkB n pl' s = true := by
    rw [tkB_iff, tkB_iff]
    constructor
    · rintro ⟨b, hb, q⟩
      rcases Nat.lt_or_ge b n with r | r
      · exact ⟨b, r, by rw [e b r]; exact q⟩
      · exact absurd q (ho b r hb)
    · rintro ⟨b, hb, q⟩
      exact ⟨b, by omega, by rw [← e b hb]; exact q⟩
  cases h1 : tkB m pl s with
  | true => exact (key.mp h1).symm
  | false =>
    cases h2 : tkB n pl' s with
    | true => have := key.mpr h2; rw [h1] at this; cases this
    | false => rfl
theorem twice_s {n W RW law : Nat} {S : MS} (hlaw : law < 3) (h3 : S 10 3 = nI law) (h4 : ∀ s, s < RW → bitS (S 10 4) s = decide (s % W < W / 2)) (hR : RW ≤ 24) : ∀ s, s < RW → bitS (fX5_seatsTwice n S) s = decide (stp W law s = 2) := by
  intro s hs
  unfold fX5_seatsTwice stp
  rw [h3]
  rcases (show law = 0 ∨ law = 1 ∨ law = 2 by omega) with rfl | rfl | rfl
  · rw [if_pos (show nI 0 = 0 from rfl), h4 s hs]
    by_cases e : s % W < W / 2
    · rw [decide_eq_true e, if_pos (Or.inl ⟨rfl, e⟩)]; rfl
    · rw [decide_eq_false e, if_neg (by omega)]; rfl
  · rw [if_neg (show ¬ nI 1 = 0 by decide), if_pos (show nI 1 = 1 from rfl), q_xor, q_m1 s (by omega), h4 s hs]
    by_cases e : s % W < W / 2
    · rw [decide_eq_true e, if_neg (by omega)]; rfl
    · rw [decide_eq_false e, if_pos (Or.inr ⟨rfl, e⟩)]; rfl
  · rw [if_neg (show ¬ nI 2 = 0 by decide), if_neg (show ¬ nI 2 = 1 by decide), q_0, if_neg (by omega)]; rfl
theorem hold_s2 {n W R law : Nat} {kd lim se : Nat → Nat} {pr : Nat → Bool} {S : MS} (hn : n ≤ 6) (hW : 2 ≤ W) (hW6 : W ≤ 6) (hlaw : law < 3) (hR : R * W ≤ 24) (h2 : S 10 2 = nI W) (h3 : S 10 3 = nI law) (hb4 : ∀ s, s < R * W → bitS (S 10 4) s = decide (s % W < W / 2)) (hb5 : ∀ s, s < R * W → bitS (S 10 5) s = decide (s % W = W - 1))
    (hse : ∀ b, b < n → se b < R * W) (hdi : ∀ b c, b < n → c < n → se b = se c → b = c) (h12 : ∀ b, b < 6 → S 12 b = if b < n ∧ pr b = true then nI (se b) else -1) (hh : ∀ b, b < n → pr b = true → bitS (S 11 1) b = decide (kd b ≠ 0)) (h14 : ∀ b, b < n → lim b ≤ 99 ∧ (pr b = true → S 14 b = nI (lim b))) :
    ∃ S', fX0_hold n S = some S' ∧ gmC n W (R * W) law kd lim pr S' ∧ cpC n (R * W) pr S' (sal n W law kd lim 99 (sg0 pr se)) ∧ (∀ j, (j ≤ 10 ∨ 16 < j ∨ j = 13 ∨ j = 14) → S' j = S j) ∧ ∀ x, n ≤ x → S' 12 x = S 12 x := by
  have hpl : ∀ b, (if b < n ∧ pr b = true then se b else 1000) < 1000 → b < n ∧ pr b = true := fun b hb => by
    by_cases e : b < n ∧ pr b = true
    · exact e
    · rw [if_neg e] at hb; omega
  obtain ⟨S1, w1, w2, w3, w4, w5⟩ := line_l (n := n) (RW := R * W) (pl := fun b => if b < n ∧ pr b = true then se b else 1000) (k := fun M15 => some M15) hn hR (fun b c hb hc hb2 e => by
      have q := hpl b hb2
      have q2 := hpl c (by
        have e' : (if b < n ∧ pr b = true then se b else 1000) = (if c < n ∧ pr c = true then se c else 1000) := e
        rw [← e']; exact hb2)
      have e' : (if b < n ∧ pr b = true then se b else 1000) = (if c < n ∧ pr c = true then se c else 1000) := e
      rw [if_pos q, if_pos q2] at e'
      exact hdi b c q.1 q2.1 e') 6 0 300 (u2 (u2 (u2 (u2 (u2 (u2 S 11 4 0) 11 5 (-9)) 11 6 0) 11 3 (fX5_seatsTwice n (u2 (u2 (u2 S 11 4 0) 11 5 (-9)) 11 6 0))) 11 0 0) 11 2 0) 0 (fun _ => 0) (by omega) (by omega) (fun b hb => by
      show ((if b < n ∧ pr b = true then se b else 1000) = 1000 ∧ S 12 b = -1) ∨ ((if b < n ∧ pr b = true then se b else 1000) < R * W ∧ b < n ∧ S 12 b = nI (if b < n ∧ pr b = true then se b else 1000))
      rw [h12 b hb]
      by_cases e : b < n ∧ pr b = true
      · rw [if_pos e, if_pos e]; exact Or.inr ⟨hse b e.1, e.1, rfl⟩
      · rw [if_neg e, if_neg e]; exact Or.inl ⟨rfl, rfl⟩) (Nat.le_refl _) rfl (fun j hj => absurd hj (Nat.not_lt_zero j)) (fun j j' _ hj => absurd hj (Nat.not_lt_zero j')) (fun b hb => absurd hb (Nat.not_lt_zero b)) (fun s hs => q_0 s)
  have e11 : ∀ b, b < n → (sg0 pr se).1 b = (if b < n ∧ pr b = true then se b else 1000) := fun b hb => by
    show (if pr b = true then se b else 1000) = _
    by_cases e : pr b = true
    · rw [if_pos e, if_pos ⟨hb, e⟩]
    · rw [if_neg e, if_neg (fun w => e w.2)]
  have hg : gmC n W (R * W) law kd lim pr S1 := by
    refine ⟨hn, hW, hW6, hlaw, hR, ?_, ?_, ?_, ?_, ?_⟩
    · rw [w2 10 (by decide) (by decide)]; exact h2
    · intro b hb hb2
      rw [w3 1 (by decide) (by decide)]
      exact hh b hb hb2
    · intro s hs
      rw [w3 3 (by decide) (by decide)]
      exact twice_s (n := n) (S := u2 (u2 (u2 S 11 4 0) 11 5 (-9)) 11 6 0) hlaw h3 hb4 hR s hs
    · intro s hs
      rw [w2 10 (by decide) (by decide)]
      exact hb5 s hs
    · rw [w2 14 (by decide) (by decide)]
      exact h14
  have hc : cpC n (R * W) pr S1 (sg0 pr se) := by
    refine ⟨fun b hb => ?_, fun b hb hb2 => ?_, ?_, ?_, ?_, fun k hk => absurd hk (Nat.not_lt_zero k), fun s hs => ?_, w4.cg e11⟩
    · show (if pr b = true then se b else 1000) < 1000 ↔ pr b = true
      have := hse b hb
      by_cases e : pr b = true
      · rw [if_pos e]; exact ⟨fun _ => e, fun _ => by omega⟩
      · rw [if_neg e]; exact ⟨fun w => by omega, fun w => absurd w e⟩
    · show S1 12 b = nI (if pr b = true then se b else 1000)
      rw [w2 12 (by decide) (by decide), if_pos hb2]
      show S 12 b = _
      rw [h12 b (by omega), if_pos ⟨hb, hb2⟩]
    · rw [w3 4 (by decide) (by decide)]; rfl
    · rw [w3 5 (by decide) (by decide)]; rfl
    · rw [w3 6 (by decide) (by decide)]; rfl
    · rw [w5 s (by omega)]
      refine tk_cg hn e11 (fun b hb1 hb2 => ?_)
      show (if b < n ∧ pr b = true then se b else 1000) ≠ s
      rw [if_neg (by omega)]
      omega
  obtain ⟨S', v1, v2, v3, v4, v5⟩ := hold_l (k := fun M9 => some M9) 99 0 300 S1 (sg0 pr se) (by omega) (by omega) hg hc (sg0_ok hse hdi)
  refine ⟨S', ?_, v2, v3, fun j hj => ?_, fun x hx => ?_⟩
  · unfold fX0_hold fX0_lineUp
    have w1' : fX0_lineUp_12 n 300 (fun M15 => some M15) (0 : Int32) (u2 (u2 (u2 (u2 (u2 (u2 S 11 4 0) 11 5 (-9)) 11 6 0) 11 3 (fX5_seatsTwice n (u2 (u2 (u2 S 11 4 0) 11 5 (-9)) 11 6 0))) 11 0 0) 11 2 0) = some S1 := w1
    rw [w1', Option.bind_some]
    exact v1
  · rw [v4 j hj, w2 j (by omega) (by omega), u2_ne _ _ _ (by omega), u2_ne _ _ _ (by omega), u2_ne _ _ _ (by omega), u2_ne _ _ _ (by omega), u2_ne _ _ _ (by omega), u2_ne _ _ _ (by omega)]
  · rw [v5 x hx, w2 12 (by decide) (by decide)]; rfl
theorem hold_s {n W R law : Nat} {kd lim se : Nat → Nat} {pr : Nat → Bool} {S : MS} (hn : n ≤ 6) (hW : 2 ≤ W) (hW6 : W ≤ 6) (hlaw : law < 3) (hR : R * W ≤ 24) (h2 : S 10 2 = nI W) (h3 : S 10 3 = nI law) (hb4 : ∀ s, s < R * W → bitS (S 10 4) s = decide (s % W < W / 2)) (hb5 : ∀ s, s < R * W → bitS (S 10 5) s = decide (s % W = W - 1))
    (hse : ∀ b, b < n → se b < R * W) (hdi : ∀ b c, b < n → c < n → se b = se c → b = c) (h12 : ∀ b, b < 6 → S 12 b = if b < n ∧ pr b = true then nI (se b) else -1) (hh : ∀ b, b < n → pr b = true → bitS (S 11 1) b = decide (kd b ≠ 0)) (h14 : ∀ b, b < n → lim b ≤ 99 ∧ (pr b = true → S 14 b = nI (lim b))) :
    ∃ S', fX0_hold n S = some S' ∧ gmC n W (R * W) law kd lim pr S' ∧ cpC n (R * W) pr S' (sal n W law kd lim 99 (sg0 pr se)) ∧ ∀ j, (j ≤ 10 ∨ 16 < j ∨ j = 13 ∨ j = 14) → S' j = S j := by
  obtain ⟨S', v1, v2, v3, v4, _⟩ := hold_s2 hn hW hW6 hlaw hR h2 h3 hb4 hb5 hse hdi h12 hh h14
  exact ⟨S', v1, v2, v3, v4⟩
/-- limits of those who may bid -/
def lmH (h : Nat → Nat → Nat) (lo : Nat) (pr : Nat → Bool) (b : Nat) : Nat := if pr b = true then lmt (h 1 b) (h 4 (4 * b + lo)) (h 2 b) else 0
def slH (n : Nat) (h : Nat → Nat → Nat) (lo : Nat) (pr : Nat → Bool) : SS := sal n (h 0 1) (h 0 2) (h 1) (lmH h lo pr) 99 (sg0 pr (h 3))
theorem vhat_s {kd : Nat} (h : kd < 3) : vhat (nI kd) = 0 ↔ kd = 0 := by
  rcases (show kd = 0 ∨ kd = 1 ∨ kd = 2 by omega) with rfl | rfl | rfl <;> decide
theorem hOK.big {n : Nat} {h : Nat → Nat → Nat} (k : hOK n h) (h2 : 2 ≤ n) : (2 ≤ n ∧ n ≤ 6 ∧ n ≤ h 0 0 * h 0 1) ∧ (1 ≤ h 0 0 ∧ h 0 0 ≤ 4 ∧ 2 ≤ h 0 1 ∧ h 0 1 ≤ 6 ∧ h 0 2 < 3 ∧ h 0 3 ≤ 6) ∧ (∀ b, b < n → h 1 b < 3 ∧ h 2 b ≤ 99 ∧ h 3 b < h 0 0 * h 0 1) ∧ (∀ b c, b < n → c < n → h 3 b = h 3 c → b = c) ∧ (∀ b lot, b < n → lot < 4 → h 4 (4 * b + lot) ≤ 99) ∧ (∀ r, r < h 0 3 → h 5 r < 4 ∧ h 6 r ≤ 99) := by
  rcases k with k | k
  · omega
  · exact k
theorem lmH_le {n : Nat} {h : Nat → Nat → Nat} (k : hOK n h) (h2 : 2 ≤ n) (lo : Nat) (pr : Nat → Bool) {b : Nat} (hb : b < n) : lmH h lo pr b ≤ 99 := by
  unfold lmH
  have := (k.big h2).2.2.1 b hb
  split
  · have := (lmt_le (h 1 b) (h 4 (4 * b + lo)) (h 2 b)).2; omega
  · omega
theorem toC_s {n : Nat} {h : Nat → Nat → Nat} {S : MS} {lo : Nat} {mask : Int32} {pr : Nat → Bool} (k1 : hOK n h) (k3 : rC n h S) (h2n : 2 ≤ n) (hlo : lo < 4) (hpr : ∀ b, b < n → bitS mask b = pr b) :
    ∃ S', fX8_sellTo n mask (nI lo) S = some S' ∧ cpC n (h 0 0 * h 0 1) pr S' (slH n h lo pr) ∧ ∀ j, (j ≤ 10 ∨ 16 < j) → S' j = S j := by
  have hR := k1.seats
  have hle := fun b => lmH_le (lo := lo) (pr := pr) k1 h2n (b := b)
  obtain ⟨⟨a1, a2, a3⟩, ⟨b1, b2, b3, b4, b5, b6⟩, c1, c2, c3, c4⟩ := k1.big h2n
  obtain ⟨⟨r1, r2, r3, r4⟩, s1, s2, s3, s4⟩ := k3
  obtain ⟨S1, g1, g2, g3, g4, g5⟩ := gather_s (mask := mask) a2 S
  obtain ⟨S2, o1, o2, o3⟩ := offer_s (n := n) a2 hlo S1
  have i12 : ∀ b, b < 6 → S2 12 b = if b < n ∧ pr b = true then nI (h 3 b) else -1 := fun b hb => by
    rw [o2 12 (by decide), g3 b hb]
    by_cases e : b < n
    · rw [hpr b e]
      by_cases e2 : pr b = true
      · rw [if_pos ⟨e, e2⟩, if_pos ⟨e, e2⟩, (s1 b e).2.2]
      · rw [if_neg (fun w => e2 w.2), if_neg (fun w => e2 w.2)]
    · rw [if_neg (fun w => e w.1), if_neg (fun w => e w.1)]
  obtain ⟨S', w1, w2, w3, w4⟩ := hold_s (n := n) (W := h 0 1) (R := h 0 0) (law := h 0 2) (kd := h 1) (lim := lmH h lo pr) (se := h 3) (pr := pr) (S := S2) a2 b3 b4 b5 hR
    (by rw [o2 10 (by decide), g2 10 (by decide) (by decide) (by decide)]; exact r2)
    (by rw [o2 10 (by decide), g2 10 (by decide) (by decide) (by decide)]; exact r3)
    (by rw [o2 10 (by decide), g2 10 (by decide) (by decide) (by decide)]; exact fun s hs => (s4 h2n s hs).1)
    (by rw [o2 10 (by decide), g2 10 (by decide) (by decide) (by decide)]; exact fun s hs => (s4 h2n s hs).2)
    (fun b hb => (c1 b hb).2.2) c2 i12
    (fun b hb hb2 => by
      rw [o2 11 (by decide), g5 b (by omega), (s1 b hb).1, hpr b hb]
      congr 1
      exact propext ⟨fun w e => w.2.2 ((vhat_s (c1 b hb).1).mpr e), fun w => ⟨hb, hb2, fun e => w ((vhat_s (c1 b hb).1).mp e)⟩⟩)
    (fun b hb => ⟨hle b hb, fun hb2 => by
      have hS1 : S1 12 b = nI (h 3 b) := by
        rw [← o2 12 (by decide), i12 b (by omega), if_pos ⟨hb, hb2⟩]
      have hs3 := (c1 b hb).2.2
      rw [o3 b (by omega), hS1, if_pos ⟨hb, nI_nm1 (by omega)⟩, g2 20 (by decide) (by decide) (by decide), g2 23 (by decide) (by decide) (by decide), g4 b (by omega), hpr b hb, if_pos ⟨hb, hb2⟩, (s1 b hb).1, (s1 b hb).2.1, s2 b lo hb hlo, vlim_spec (c1 b hb).1 (c3 b lo hb hlo) (by have := (c1 b hb).2.1; omega)]
      unfold lmH
      rw [if_pos hb2]⟩)
  refine ⟨S', ?_, w3, fun j hj => ?_⟩
  · unfold fX8_sellTo
    rw [g1, Option.bind_some, o1, Option.bind_some, w1, Option.bind_some]
  · rw [w4 j (by omega), o2 j (by omega), g2 j (by omega) (by omega) (by omega)]
theorem toM_s {n : Nat} {h : Nat → Nat → Nat} {M : MS} {lo : Nat} {may : Int32} {pr : Nat → Bool} (k1 : hOK n h) (k2 : rM n h M) (h2n : 2 ≤ n) (hlo : lo < 4) (hpr : ∀ b, b < n → bitS may b = pr b) :
    ∃ M', fX9_sellTo (nI lo) may M = some M' ∧ cpM n M' (slH n h lo pr) ∧ okS n (h 0 1) (h 0 0 * h 0 1) (lmH h lo pr) (slH n h lo pr) ∧ ∀ j, (j < 15 ∨ 19 < j) → M' j = M j := by
  have hR := k1.seats
  have hle := fun b => lmH_le (lo := lo) (pr := pr) k1 h2n (b := b)
  obtain ⟨⟨a1, a2, a3⟩, ⟨b1, b2, b3, b4, b5, b6⟩, c1, c2, c3, c4⟩ := k1.big h2n
  obtain ⟨⟨r1, r2, r3, r4, r5⟩, s1, s2, s3⟩ := k2
  have hin : ∀ b, b < n → fX9_isIn may (nI b) = if pr b = true then 1 else 0 := fun b hb => by
    rw [q_in9 (show b < 32 by omega), hpr b hb]
  refine sellTo_s (n := n) (W := h 0 1) (R := h 0 0) (law := h 0 2) (lo := lo) (kd := h 1) (lim := lmH h lo pr) (se := h 3) (pr := pr) (M := M) hR ⟨a2, b3, b4, b5, r2, r3, r4, fun b hb => ⟨(s1 b hb).1, (c1 b hb).1⟩, fun b hb => ⟨hle b hb, ?_⟩⟩ (fun b hb => (s1 b hb).2.2) (fun b hb => (c1 b hb).2.2) c2 hin
  rw [hin b hb]
  unfold lmH
  by_cases e : pr b = true
  · rw [if_pos e, if_pos e]
    exact Or.inl ⟨rfl, limitOf_spec (by omega) hlo (c1 b hb).1 (c3 b lo hb hlo) (by have := (c1 b hb).2.1; omega) (s1 b hb).1 (s1 b hb).2.1 (s2 b lo hb hlo)⟩
  · rw [if_neg e, if_neg e]
    exact Or.inr ⟨rfl, rfl⟩
