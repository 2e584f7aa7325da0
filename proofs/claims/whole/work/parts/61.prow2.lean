/-! loops over a row of sales -/
theorem brM_l {n m : Nat} {L : Nat → Nat} {k : Int32 → MS → Option (Int32 × MS)} (h2n : 2 ≤ n) (hn : n ≤ 6) (hm : m ≤ 4) (hL : ∀ x, x < m → L x < 4) :
    ∀ d i fu (h : Nat → Nat → Nat) (M : MS) (v : Int32), i + d = m → d < fu → hOK n h → rwM n h M → (∀ x, x < m → M 20 x = nI (L x)) →
      ∃ M', fX9_brings_40 fu k (nI m) v (nI i) M = k (v + nI (rnH n L d i h).1) M' ∧ rwM n (rnH n L d i h).2 M' ∧ (∀ j, j ≠ 5 → (j < 15 ∨ 19 < j) → M' j = M j) ∧ ∀ x, n ≤ x → M' 5 x = M 5 x := by
  intro d
  induction d with
  | zero =>
    intro i fu h M v hi hf k1 k2 h20
    obtain ⟨f, rfl⟩ : ∃ f, fu = f + 1 := ⟨fu - 1, by omega⟩
    refine ⟨M, ?_, k2, fun _ _ _ => rfl, fun _ _ => rfl⟩
    rw [fX9_brings_40, if_pos (nI_le (by omega) (by omega)), show nI (rnH n L 0 i h).1 = 0 from rfl, Int32.add_zero]
  | succ d ih =>
    intro i fu h M v hi hf k1 k2 h20
    obtain ⟨f, rfl⟩ : ∃ f, fu = f + 1 := ⟨fu - 1, by omega⟩
    have him : i < m := by omega
    have hLi := hL i him
    have hpay := pay_le (L i) k1 h2n
    have hR := k1.seats
    obtain ⟨M1, w1, w2, w3⟩ := onM_s (lo := L i) k1 h2n hLi k2
    obtain ⟨c1, c2, c3, c4, c5⟩ := w2
    have base : ∀ M2 : MS, (∀ j, j ≠ 5 → M2 j = M1 j) → (∀ b, b < n → M2 5 b = nI (nxH n h (L i) 2 b)) → rwM n (nxH n h (L i)) M2 := fun M2 e1 e2 => by
      refine ⟨⟨?_, ?_, ?_⟩, fun b hb => ⟨?_, e2 b hb, ?_⟩, fun b lot hb hl => ?_⟩
      · rw [e1 2 (by decide), w3 2 (by decide)]; exact k2.1.1
      · rw [e1 3 (by decide), w3 3 (by decide)]; exact k2.1.2.1
      · rw [e1 8 (by decide), w3 8 (by decide)]; exact k2.1.2.2
      · rw [e1 4 (by decide), w3 4 (by decide)]; exact (k2.2.1 b hb).1
      · rw [e1 15 (by decide), c1 b hb, encP_lt (by have := slH_in (L i) k1 h2n hb; omega)]; rfl
      · rw [e1 7 (by decide), w3 7 (by decide)]; exact k2.2.2 b lot hb hl
    have fin : ∀ M2 : MS, (∀ j, j ≠ 5 → M2 j = M1 j) → (∀ b, b < n → M2 5 b = nI (nxH n h (L i) 2 b)) → (∀ x, n ≤ x → M2 5 x = M1 5 x) →
        ∃ M', fX9_brings_40 f k (nI m) (v + M1 16 0) (nI (i + 1)) M2 = k (v + nI (rnH n L (d + 1) i h).1) M' ∧ rwM n (rnH n L (d + 1) i h).2 M' ∧ (∀ j, j ≠ 5 → (j < 15 ∨ 19 < j) → M' j = M j) ∧ ∀ x, n ≤ x → M' 5 x = M 5 x := fun M2 e1 e2 e3 => by
      obtain ⟨M', y1, y2, y3, y4⟩ := ih (i + 1) f (nxH n h (L i)) M2 (v + nI (prH n h (L i))) (by omega) (by omega) (k1.nx h2n (L i)) (base M2 e1 e2) (fun x hx => by rw [e1 20 (by decide), w3 20 (by decide)]; exact h20 x hx)
      refine ⟨M', ?_, y2, fun j h1 h2 => by rw [y3 j h1 h2, e1 j h1, w3 j h2], fun x hx => by rw [y4 x hx, e3 x hx, w3 5 (by decide)]⟩
      rw [c2]
      rw [Int32.add_assoc, nI_add] at y1
      exact y1
    rw [fX9_brings_40, if_neg (nI_ge him (by omega)), gd_nI (show i < 4 by omega) (by decide), nI_clamp (show i < 2 ^ 31 by omega), h20 i him, w1, Option.bind_some, c3, nI_1]
    rcases hpay with ⟨q1, q2⟩ | ⟨q1, q2⟩
    · rw [q1, encP_k, if_pos (show (-9 : Int32) < 0 by decide)]
      refine fin M1 (fun _ _ => rfl) (fun b hb => ?_) (fun _ _ => rfl)
      rw [nxH_2, if_neg (by omega), w3 5 (by decide)]
      exact (k2.2.1 b hb).2.1
    · rw [encP_lt (by omega), if_neg (nI_pos (by omega)), gd_nI (show (slH n h (L i) (fun _ => true)).2.2.1 < 6 by omega) (by decide), gd_nI (show (slH n h (L i) (fun _ => true)).2.2.1 < 6 by omega) (by decide), nI_clamp (show (slH n h (L i) (fun _ => true)).2.2.1 < 2 ^ 31 by omega)]
      refine fin _ (fun j hj => u2_ne _ _ _ hj) (fun b hb => ?_) (fun x hx => ?_)
      · rw [u2_at, nxH_2]
        by_cases e : b = (slH n h (L i) (fun _ => true)).2.2.1
        · rw [← e, upd_at, if_pos rfl, w3 5 (by decide), (k2.2.1 b hb).2.1, c2, pk_sub (by rw [e]; exact q2)]
        · rw [upd_ne _ _ e, if_neg e, w3 5 (by decide)]
          exact (k2.2.1 b hb).2.1
      · rw [u2_at, upd_ne _ _ (by omega)]
theorem br2_l {n : Nat} {k : MS → Option (Int32 × MS)} (hn : n ≤ 6) :
    ∀ d i fu (M : MS), M 3 0 = nI n → i + d = n → d < fu → ∃ M', fX9_brings_2 fu k (nI i) M = k M' ∧ (∀ j, j ≠ 21 → M' j = M j) ∧ (∀ x, i ≤ x → x < n → M' 21 x = M 5 x) ∧ ∀ x, x < i → M' 21 x = M 21 x := by
  intro d
  induction d with
  | zero =>
    intro i fu M h3 hi hf
    obtain ⟨f, rfl⟩ : ∃ f, fu = f + 1 := ⟨fu - 1, by omega⟩
    refine ⟨M, ?_, fun _ _ => rfl, fun x h1 h2 => by omega, fun _ _ => rfl⟩
    rw [fX9_brings_2, h3, if_pos (nI_le (by omega) (by omega))]
  | succ d ih =>
    intro i fu M h3 hi hf
    obtain ⟨f, rfl⟩ : ∃ f, fu = f + 1 := ⟨fu - 1, by omega⟩
    have hin : i < n := by omega
    rw [fX9_brings_2, h3, if_neg (nI_ge hin (by omega)), nI_1, gd_nI (show i < 6 by omega) (by decide), gd_nI (show i < 6 by omega) (by decide), nI_clamp (show i < 2 ^ 31 by omega)]
    obtain ⟨M', w1, w2, w3, w4⟩ := ih (i + 1) f (u2 M 21 i (M 5 i)) h3 (by omega) (by omega)
    refine ⟨M', w1, fun j hj => (w2 j hj).trans (u2_ne _ _ _ hj), fun x h1 h2 => ?_, fun x hx => ?_⟩
    · by_cases e : x = i
      · rw [w4 x (by omega), u2_at, e, upd_at]
      · exact w3 x (by omega) h2
    · rw [w4 x (by omega), u2_at, upd_ne _ _ (by omega)]
theorem br97_l {n : Nat} {k : MS → Option (Int32 × MS)} (hn : n ≤ 6) :
    ∀ d i fu (M : MS), M 3 0 = nI n → i + d = n → d < fu → ∃ M', fX9_brings_97 fu k (nI i) M = k M' ∧ (∀ j, j ≠ 22 → j ≠ 5 → M' j = M j) ∧ (∀ x, i ≤ x → x < n → M' 22 x = M 5 x ∧ M' 5 x = M 21 x) ∧ (∀ x, x < i → M' 22 x = M 22 x ∧ M' 5 x = M 5 x) ∧ ∀ x, n ≤ x → M' 5 x = M 5 x := by
  intro d
  induction d with
  | zero =>
    intro i fu M h3 hi hf
    obtain ⟨f, rfl⟩ : ∃ f, fu = f + 1 := ⟨fu - 1, by omega⟩
    refine ⟨M, ?_, fun _ _ _ => rfl, fun x h1 h2 => by omega, fun _ _ => ⟨rfl, rfl⟩, fun _ _ => rfl⟩
    rw [fX9_brings_97, h3, if_pos (nI_le (by omega) (by omega))]
  | succ d ih =>
    intro i fu M h3 hi hf
    obtain ⟨f, rfl⟩ : ∃ f, fu = f + 1 := ⟨fu - 1, by omega⟩
    have hin : i < n := by omega
    rw [fX9_brings_97, h3, if_neg (nI_ge hin (by omega)), nI_1, gd_nI (show i < 6 by omega) (by decide), gd_nI (show i < 6 by omega) (by decide), gd_nI (show i < 6 by omega) (by decide), gd_nI (show i < 6 by omega) (by decide), nI_clamp (show i < 2 ^ 31 by omega)]
    obtain ⟨M', w1, w2, w3, w4, w5⟩ := ih (i + 1) f (u2 (u2 M 22 i (M 5 i)) 5 i ((u2 M 22 i (M 5 i)) 21 i)) h3 (by omega) (by omega)
    have a22 : ∀ x, u2 (u2 M 22 i (M 5 i)) 5 i ((u2 M 22 i (M 5 i)) 21 i) 22 x = upd (M 22) i (M 5 i) x := fun _ => rfl
    have a5 : ∀ x, u2 (u2 M 22 i (M 5 i)) 5 i ((u2 M 22 i (M 5 i)) 21 i) 5 x = upd (M 5) i (M 21 i) x := fun _ => rfl
    refine ⟨M', w1, fun j h1 h2 => ?_, fun x h1 h2 => ?_, fun x hx => ?_, fun x hx => ?_⟩
    · rw [w2 j h1 h2, u2_ne _ _ _ h2, u2_ne _ _ _ h1]
    · by_cases e : x = i
      · have := w4 x (by omega)
        rw [a22, a5, e, upd_at, upd_at] at this
        rw [e]; exact this
      · have := w3 x (by omega) h2
        rw [a5, upd_ne _ _ e] at this
        exact this
    · have := w4 x (by omega)
      rw [a22, a5, upd_ne _ _ (show x ≠ i by omega), upd_ne _ _ (show x ≠ i by omega)] at this
      exact this
    · rw [w5 x hx, a5, upd_ne _ _ (by omega)]
theorem brings_s {n m : Nat} {h : Nat → Nat → Nat} {L : Nat → Nat} {M : MS} (k1 : hOK n h) (h2n : 2 ≤ n) (k2 : rM n h M) (hm : m ≤ 4) (hL : ∀ x, x < m → L x < 4) (h20 : ∀ x, x < m → M 20 x = nI (L x)) :
    ∃ M', fX9_brings (nI m) M = some (nI (rnH n L m 0 h).1, M') ∧ (∀ b, b < n → M' 22 b = nI ((rnH n L m 0 h).2 2 b)) ∧ ∀ j, (j < 15 ∨ 19 < j) → j ≠ 21 → j ≠ 22 → M' j = M j := by
  have hn := k1.le6
  obtain ⟨⟨r1, r2, r3, r4, r5⟩, s1, s2, s3⟩ := k2
  obtain ⟨M1, x1, x2, x3, x4⟩ := br2_l (n := n) (k := fun M4 => ((fX9_sitDown (fX9_all M4) M4).bind fun r5 => (fX9_brings_40 300 (fun x14 M15 => (fX9_brings_97 300 (fun M21 => (some (x14, M21))) (0 : Int32) M15)) (nI m) (0 : Int32) (0 : Int32) r5))) hn n 0 300 M r3 (by omega) (by omega)
  have r31 : M1 3 0 = nI n := by rw [x2 3 (by decide)]; exact r3
  obtain ⟨M2, y1, y2, y3⟩ := sitDown_s (may := fX9_all M1) (M := M1) hn r31
  have fr2 : ∀ j, j ≠ 15 → j ≠ 21 → M2 j = M j := fun j h1 h2 => by rw [y2 j h1, x2 j h2]
  have k2' : rwM n h M2 := by
    refine ⟨⟨?_, ?_, ?_⟩, fun b hb => ⟨?_, ?_, ?_⟩, fun b lot hb hl => ?_⟩
    · rw [fr2 2 (by decide) (by decide)]; exact r2
    · rw [fr2 3 (by decide) (by decide)]; exact r3
    · rw [fr2 8 (by decide) (by decide)]; exact r4
    · rw [fr2 4 (by decide) (by decide)]; exact (s1 b hb).1
    · rw [fr2 5 (by decide) (by decide)]; exact (s1 b hb).2.1
    · rw [y3 b hb, all_s hn hb r31, if_neg z10, x2 6 (by decide)]; exact (s1 b hb).2.2
    · rw [fr2 7 (by decide) (by decide)]; exact s2 b lot hb hl
  obtain ⟨M3, z1, z2, z3, z4⟩ := brM_l (n := n) (m := m) (L := L) (k := fun x14 M15 => (fX9_brings_97 300 (fun M21 => (some (x14, M21))) (0 : Int32) M15)) h2n hn hm hL m 0 300 h M2 0 (by omega) (by omega) k1 k2' (fun x hx => by rw [fr2 20 (by decide) (by decide)]; exact h20 x hx)
  have r33 : M3 3 0 = nI n := by rw [z3 3 (by decide) (by decide), fr2 3 (by decide) (by decide)]; exact r3
  obtain ⟨M4, t1, t2, t3, t4, t5⟩ := br97_l (n := n) (k := fun M21 => (some ((0 : Int32) + nI (rnH n L m 0 h).1, M21))) hn n 0 300 M3 r33 (by omega) (by omega)
  refine ⟨M4, ?_, fun b hb => ?_, fun j h1 h2 h3 => ?_⟩
  · unfold fX9_brings
    refine Eq.trans x1 ?_
    show ((fX9_sitDown (fX9_all M1) M1).bind fun r5 => (fX9_brings_40 300 (fun x14 M15 => (fX9_brings_97 300 (fun M21 => (some (x14, M21))) (0 : Int32) M15)) (nI m) (0 : Int32) (0 : Int32) r5)) = _
    rw [y1, Option.bind_some]
    refine Eq.trans z1 ?_
    refine Eq.trans t1 ?_
    rw [Int32.zero_add]
  · rw [(t3 b (by omega) hb).1]; exact (z2.2.1 b hb).2.1
  · by_cases e : j = 5
    · subst e
      funext x
      rcases Nat.lt_or_ge x n with q | q
      · rw [(t3 x (by omega) q).2, z3 21 (by decide) (by decide), y2 21 (by decide), x3 x (by omega) q]
      · rw [t5 x q, z4 x q, fr2 5 (by decide) (by decide)]
    · rw [t2 j h3 e, z3 j e h1, fr2 j (by omega) h2]
/-! the classes' loops -/
theorem rowC_l {n m len ii kk : Nat} {L : Nat → Nat} {k : Int32 → MS → Option (Int32 × MS)} (h2n : 2 ≤ n) (hlen : len ≤ 60) (him : ii + m ≤ len) (hkk : kk < 4) (hL : ∀ x, x < m → L x < 4) :
    ∀ d q fu (h : Nat → Nat → Nat) (S : MS) (v : Int32), q + d = m → d < fu → hOK n h → rwC n h S → S (1 + kk) 1 = nI len → (∀ x, x < m → S (5 + kk) (ii + x) = nI (L x)) →
      ∃ S', fX8_sellRow_15 n fu k kk (nI ii) (nI m) v (nI q) S = k (v + nI (rnH n L d q h).1) S' ∧ rwC n (rnH n L d q h).2 S' ∧ ∀ j, (j ≤ 10 ∨ 16 < j) → S' j = S j := by
  intro d
  induction d with
  | zero =>
    intro q fu h S v hi hf k1 k3 hl hc
    obtain ⟨f, rfl⟩ : ∃ f, fu = f + 1 := ⟨fu - 1, by omega⟩
    refine ⟨S, ?_, k3, fun _ _ => rfl⟩
    rw [fX8_sellRow_15, if_pos (nI_le (by omega) (by omega)), show nI (rnH n L 0 q h).1 = 0 from rfl, Int32.add_zero]
  | succ d ih =>
    intro q fu h S v hi hf k1 k3 hl hc
    obtain ⟨f, rfl⟩ : ∃ f, fu = f + 1 := ⟨fu - 1, by omega⟩
    have hqm : q < m := by omega
    obtain ⟨S1, w1, w2, w3⟩ := onC_s (lo := L q) k1 h2n (hL q hqm) k3
    obtain ⟨S', y1, y2, y3⟩ := ih (q + 1) f (nxH n h (L q)) S1 (v + nI (prH n h (L q))) (by omega) (by omega) (k1.nx h2n (L q)) w2 (by rw [w3 (1 + kk) (by omega)]; exact hl) (fun x hx => by rw [w3 (5 + kk) (by omega)]; exact hc x hx)
    refine ⟨S', ?_, y2, fun j hj => (y3 j hj).trans (w3 j hj)⟩
    rw [fX8_sellRow_15, if_neg (nI_ge hqm (by omega)), nI_add, at_spec hl hlen (by omega), Option.bind_some, hc q hqm, w1, Option.bind_some, nI_1]
    rw [Int32.add_assoc, nI_add] at y1
    exact y1
theorem sellRow_s {n m len ii kk : Nat} {L : Nat → Nat} {h : Nat → Nat → Nat} {S : MS} (k1 : hOK n h) (h2n : 2 ≤ n) (k3 : rC n h S) (hlen : len ≤ 60) (him : ii + m ≤ len) (hkk : kk < 4) (hL : ∀ x, x < m → L x < 4) (hl : S (1 + kk) 1 = nI len) (hc : ∀ x, x < m → S (5 + kk) (ii + x) = nI (L x)) :
    ∃ S', fX8_sellRow n kk (nI ii) (nI m) S = some (nI (rnH n L m 0 h).1, S') ∧ (∀ b, b < n → S' 13 b = nI ((rnH n L m 0 h).2 2 b)) ∧ ∀ j, (j ≤ 10 ∨ 16 < j) → S' j = S j := by
  obtain ⟨S1, g1, g2, g3⟩ := gathR_s k1 k3 h2n
  obtain ⟨S', y1, y2, y3⟩ := rowC_l (k := fun x8 M9 => (some (x8, M9))) h2n hlen him hkk hL m 0 300 h S1 0 (by omega) (by omega) k1 g2 (by rw [g3 (1 + kk) (by omega)]; exact hl) (fun x hx => by rw [g3 (5 + kk) (by omega)]; exact hc x hx)
  refine ⟨S', ?_, fun b hb => (y2.2.2.1 b hb).2.1, fun j hj => (y3 j hj).trans (g3 j hj)⟩
  unfold fX8_sellRow
  rw [g1, Option.bind_some]
  refine Eq.trans y1 ?_
  rw [Int32.zero_add]
theorem ordC_l {n : Nat} {L : Nat → Nat} {v1 : Int32} {k : Int32 → MS → Option (Int32 × MS)} (h2n : 2 ≤ n) (hL : ∀ x, x < 4 → L x < 4) (hc : ∀ x, x < 4 → fX8_lotOfOrder v1 (nI x) = nI (L x)) :
    ∀ d q fu (h : Nat → Nat → Nat) (S : MS) (v : Int32), q + d = 4 → d < fu → hOK n h → rwC n h S →
      ∃ S', fX8_sellOrder_13 n fu k v1 v (nI q) S = k (v + nI (rnH n L d q h).1) S' ∧ rwC n (rnH n L d q h).2 S' ∧ ∀ j, (j ≤ 10 ∨ 16 < j) → S' j = S j := by
  intro d
  induction d with
  | zero =>
    intro q fu h S v hi hf k1 k3
    obtain ⟨f, rfl⟩ : ∃ f, fu = f + 1 := ⟨fu - 1, by omega⟩
    refine ⟨S, ?_, k3, fun _ _ => rfl⟩
    rw [fX8_sellOrder_13, if_pos (show (4 : Int32) ≤ nI q from nI_le (a := 4) (by omega) (by omega)), show nI (rnH n L 0 q h).1 = 0 from rfl, Int32.add_zero]
  | succ d ih =>
    intro q fu h S v hi hf k1 k3
    obtain ⟨f, rfl⟩ : ∃ f, fu = f + 1 := ⟨fu - 1, by omega⟩
    have hqm : q < 4 := by omega
    obtain ⟨S1, w1, w2, w3⟩ := onC_s (lo := L q) k1 h2n (hL q hqm) k3
    obtain ⟨S', y1, y2, y3⟩ := ih (q + 1) f (nxH n h (L q)) S1 (v + nI (prH n h (L q))) (by omega) (by omega) (k1.nx h2n (L q)) w2
    refine ⟨S', ?_, y2, fun j hj => (y3 j hj).trans (w3 j hj)⟩
    rw [fX8_sellOrder_13, if_neg (show ¬ (4 : Int32) ≤ nI q from nI_ge (b := 4) hqm (by decide)), hc q hqm, w1, Option.bind_some, nI_1]
    rw [Int32.add_assoc, nI_add] at y1
    exact y1
theorem sellOrder_s {n : Nat} {L : Nat → Nat} {v1 : Int32} {h : Nat → Nat → Nat} {S : MS} (k1 : hOK n h) (h2n : 2 ≤ n) (k3 : rC n h S) (hL : ∀ x, x < 4 → L x < 4) (hc : ∀ x, x < 4 → fX8_lotOfOrder v1 (nI x) = nI (L x)) :
    ∃ S', fX8_sellOrder n v1 S = some (nI (rnH n L 4 0 h).1, S') ∧ ∀ j, (j ≤ 10 ∨ 16 < j) → S' j = S j := by
  obtain ⟨S1, g1, g2, g3⟩ := gathR_s k1 k3 h2n
  obtain ⟨S', y1, y2, y3⟩ := ordC_l (v1 := v1) (k := fun x6 M7 => (some (x6, M7))) h2n hL hc 4 0 300 h S1 0 (by omega) (by omega) k1 g2
  refine ⟨S', ?_, fun j hj => (y3 j hj).trans (g3 j hj)⟩
  unfold fX8_sellOrder
  rw [g1, Option.bind_some]
  refine Eq.trans y1 ?_
  rw [Int32.zero_add]
