/-! rows of sales: the hall between two sales -/
def nxH (n : Nat) (h : Nat → Nat → Nat) (lo : Nat) : Nat → Nat → Nat := fun k j =>
  bif Nat.beq k 3 then (slH n h lo (fun _ => true)).1 j else bif Nat.beq k 2 then (if j = (slH n h lo (fun _ => true)).2.2.1 then h 2 j - (slH n h lo (fun _ => true)).2.1 else h 2 j) else h k j
theorem sal_in {n W R law : Nat} {kd lim : Nat → Nat} (hW : 2 ≤ W) (hW6 : W ≤ 6) (hR : R * W ≤ 24) : ∀ d (σ : SS), okS n W (R * W) lim σ → (∀ b, b < n → σ.1 b < 1000) → ∀ b, b < n → (sal n W law kd lim d σ).1 b < 1000 := by
  intro d
  induction d with
  | zero => intro σ _ hi; exact hi
  | succ d ih =>
    intro σ h hi
    rw [sal]
    cases hc : nx (elB n W law kd lim σ) σ.1 n with
    | none => exact hi
    | some c =>
      have hb := nx_some hc
      refine ih _ (bs_ok h hW hW6 hb.1 hb.2.1) (fun b hb2 => ?_)
      have hcr : σ.1 c < R * W := by
        have := hi c hb.1
        rcases h.1 c hb.1 with q | q <;> omega
      show (if σ.1 c % W ≠ W - 1 ∧ tkB n σ.1 (σ.1 c + 1) = false then (fun x => if x = c then σ.1 c + 1 else σ.1 x) else σ.1) b < 1000
      by_cases e : σ.1 c % W ≠ W - 1 ∧ tkB n σ.1 (σ.1 c + 1) = false
      · rw [if_pos e]
        show (if b = c then σ.1 c + 1 else σ.1 b) < 1000
        by_cases e2 : b = c
        · rw [if_pos e2]; omega
        · rw [if_neg e2]; exact hi b hb2
      · rw [if_neg e]; exact hi b hb2
theorem slH_in {n : Nat} {h : Nat → Nat → Nat} (lo : Nat) (k1 : hOK n h) (h2n : 2 ≤ n) {b : Nat} (hb : b < n) : (slH n h lo (fun _ => true)).1 b < h 0 0 * h 0 1 := by
  have hR := k1.seats
  have ok := slH_ok lo (fun _ => true) k1 h2n
  obtain ⟨⟨a1, a2, a3⟩, ⟨b1, b2, b3, b4, b5, b6⟩, c1, c2, c3, c4⟩ := k1.big h2n
  have := sal_in (law := h 0 2) (kd := h 1) (lim := lmH h lo (fun _ => true)) b3 b4 hR 99 (sg0 (fun _ => true) (h 3)) (sg0_ok (fun b hb => (c1 b hb).2.2) c2) (fun b hb => by
    show (if true = true then h 3 b else 1000) < 1000
    rw [if_pos rfl]
    have := (c1 b hb).2.2
    omega) b hb
  have h2 : (slH n h lo (fun _ => true)).1 b < 1000 := this
  rcases ok.1 b hb with q | q
  · omega
  · exact q
theorem pay_le {n : Nat} {h : Nat → Nat → Nat} (lo : Nat) (k1 : hOK n h) (h2n : 2 ≤ n) : ((slH n h lo (fun _ => true)).2.2.1 = 1000 ∧ (slH n h lo (fun _ => true)).2.1 = 0) ∨ ((slH n h lo (fun _ => true)).2.2.1 < n ∧ (slH n h lo (fun _ => true)).2.1 ≤ h 2 (slH n h lo (fun _ => true)).2.2.1) := by
  have ok := slH_ok lo (fun _ => true) k1 h2n
  rcases ok.2.2.1 with q | q
  · exact Or.inl q
  · refine Or.inr ⟨q.1, ?_⟩
    have h1 := q.2
    have h2 : lmH h lo (fun _ => true) (slH n h lo (fun _ => true)).2.2.1 = lmt (h 1 (slH n h lo (fun _ => true)).2.2.1) (h 4 (4 * (slH n h lo (fun _ => true)).2.2.1 + lo)) (h 2 (slH n h lo (fun _ => true)).2.2.1) := if_pos rfl
    have h3 := (lmt_le (h 1 (slH n h lo (fun _ => true)).2.2.1) (h 4 (4 * (slH n h lo (fun _ => true)).2.2.1 + lo)) (h 2 (slH n h lo (fun _ => true)).2.2.1)).2
    omega
theorem nxH_2 (n : Nat) (h : Nat → Nat → Nat) (lo j : Nat) : nxH n h lo 2 j = if j = (slH n h lo (fun _ => true)).2.2.1 then h 2 j - (slH n h lo (fun _ => true)).2.1 else h 2 j := rfl
theorem prH_le2 {n : Nat} {h : Nat → Nat → Nat} (lo : Nat) (k1 : hOK n h) (h2n : 2 ≤ n) : prH n h lo ≤ 99 := by
  unfold prH
  rcases pay_le lo k1 h2n with q | q
  · omega
  · have := ((k1.big h2n).2.2.1 _ q.1).2.1
    omega
theorem hOK.nx {n : Nat} {h : Nat → Nat → Nat} (k1 : hOK n h) (h2n : 2 ≤ n) (lo : Nat) : hOK n (nxH n h lo) := by
  have hin := fun b => slH_in (b := b) lo k1 h2n
  have hR := k1.seats
  have ok := slH_ok lo (fun _ => true) k1 h2n
  obtain ⟨a, b, c1, c2, c3, c4⟩ := k1.big h2n
  refine Or.inr ⟨a, b, fun x hx => ⟨(c1 x hx).1, ?_, hin x hx⟩, fun x y hx hy e => ok.2.1 x y hx hy (by have := hin x hx; omega) e, c3, c4⟩
  rw [nxH_2]
  have := (c1 x hx).2.1
  split <;> omega
/-- a row of sales in numbers: what it brings, and the hall behind it -/
def rnH (n : Nat) (L : Nat → Nat) : Nat → Nat → (Nat → Nat → Nat) → Nat × (Nat → Nat → Nat)
  | 0, _, h => (0, h)
  | d + 1, i, h => (prH n h (L i) + (rnH n L d (i + 1) (nxH n h (L i))).1, (rnH n L d (i + 1) (nxH n h (L i))).2)
theorem rnH_le {n : Nat} {L : Nat → Nat} (h2n : 2 ≤ n) : ∀ d i (h : Nat → Nat → Nat), hOK n h → (rnH n L d i h).1 ≤ 99 * d ∧ hOK n (rnH n L d i h).2 := by
  intro d
  induction d with
  | zero => intro i h k; exact ⟨Nat.le_refl _, k⟩
  | succ d ih =>
    intro i h k
    have h1 := ih (i + 1) _ (k.nx h2n (L i))
    have h2 := prH_le2 (L i) k h2n
    refine ⟨?_, h1.2⟩
    show prH n h (L i) + (rnH n L d (i + 1) (nxH n h (L i))).1 ≤ 99 * (d + 1)
    omega
/-! the classes in a row of sales -/
def rwC (n : Nat) (h : Nat → Nat → Nat) (S : MS) : Prop :=
  (S 10 2 = nI (h 0 1) ∧ S 10 3 = nI (h 0 2)) ∧
  (∀ s, s < h 0 0 * h 0 1 → bitS (S 10 4) s = decide (s % h 0 1 < h 0 1 / 2) ∧ bitS (S 10 5) s = decide (s % h 0 1 = h 0 1 - 1)) ∧
  (∀ b, b < n → S 20 b = nI (h 1 b) ∧ S 13 b = nI (h 2 b) ∧ bitS (S 11 1) b = decide (h 1 b ≠ 0)) ∧
  (∀ b lot, b < n → lot < 4 → S 23 (6 * lot + b) = nI (h 4 (4 * b + lot))) ∧
  ∀ b, b < 6 → S 12 b = if b < n then nI (h 3 b) else -1
theorem gathR_s {n : Nat} {h : Nat → Nat → Nat} {S : MS} (k1 : hOK n h) (k3 : rC n h S) (h2n : 2 ≤ n) : ∃ S1, fX0_gather n 63 S = some S1 ∧ rwC n h S1 ∧ ∀ j, (j ≤ 10 ∨ 16 < j) → S1 j = S j := by
  obtain ⟨⟨a1, a2, a3⟩, ⟨b1, b2, b3, b4, b5, b6⟩, c1, c2, c3, c4⟩ := k1.big h2n
  obtain ⟨⟨r1, r2, r3, r4⟩, s1, s2, s3, s4⟩ := k3
  obtain ⟨S1, g1, g2, g3, g4, g5⟩ := gather_s (mask := 63) a2 S
  refine ⟨S1, g1, ⟨⟨?_, ?_⟩, ?_, fun b hb => ⟨?_, ?_, ?_⟩, fun b lot hb hl => ?_, fun b hb => ?_⟩, fun j hj => g2 j (by omega) (by omega) (by omega)⟩
  · rw [g2 10 (by decide) (by decide) (by decide)]; exact r2
  · rw [g2 10 (by decide) (by decide) (by decide)]; exact r3
  · rw [g2 10 (by decide) (by decide) (by decide)]; exact s4 h2n
  · rw [g2 20 (by decide) (by decide) (by decide)]; exact (s1 b hb).1
  · rw [g4 b (by omega), if_pos ⟨hb, q_63 b (by omega)⟩]; exact (s1 b hb).2.1
  · rw [g5 b (by omega), (s1 b hb).1]
    congr 1
    exact propext ⟨fun w e => w.2.2 ((vhat_s (c1 b hb).1).mpr e), fun w => ⟨hb, q_63 b (by omega), fun e => w ((vhat_s (c1 b hb).1).mp e)⟩⟩
  · rw [g2 23 (by decide) (by decide) (by decide)]; exact s2 b lot hb hl
  · rw [g3 b hb]
    by_cases e : b < n
    · rw [if_pos ⟨e, q_63 b hb⟩, if_pos e]; exact (s1 b e).2.2
    · rw [if_neg (fun w => e w.1), if_neg e]
theorem onC_s {n : Nat} {h : Nat → Nat → Nat} {S : MS} {lo : Nat} (k1 : hOK n h) (h2n : 2 ≤ n) (hlo : lo < 4) (k3 : rwC n h S) :
    ∃ S', fX0_sellOn n (nI lo) S = some (nI (prH n h lo), S') ∧ rwC n (nxH n h lo) S' ∧ ∀ j, (j ≤ 10 ∨ 16 < j) → S' j = S j := by
  have hR := k1.seats
  have hle := fun b => lmH_le (lo := lo) (pr := fun _ => true) k1 h2n (b := b)
  have hpay := pay_le lo k1 h2n
  obtain ⟨⟨a1, a2, a3⟩, ⟨b1, b2, b3, b4, b5, b6⟩, c1, c2, c3, c4⟩ := k1.big h2n
  obtain ⟨⟨r2, r3⟩, s4, s1, s2, s5⟩ := k3
  obtain ⟨S2, o1, o2, o3⟩ := offer_s (n := n) a2 hlo S
  obtain ⟨S', w1, w2, w3, w4, w5⟩ := hold_s2 (n := n) (W := h 0 1) (R := h 0 0) (law := h 0 2) (kd := h 1) (lim := lmH h lo (fun _ => true)) (se := h 3) (pr := fun _ => true) (S := S2) a2 b3 b4 b5 hR
    (by rw [o2 10 (by decide)]; exact r2)
    (by rw [o2 10 (by decide)]; exact r3)
    (by rw [o2 10 (by decide)]; exact fun s hs => (s4 s hs).1)
    (by rw [o2 10 (by decide)]; exact fun s hs => (s4 s hs).2)
    (fun b hb => (c1 b hb).2.2) c2
    (fun b hb => by
      rw [o2 12 (by decide), s5 b hb]
      by_cases e : b < n
      · rw [if_pos e, if_pos ⟨e, rfl⟩]
      · rw [if_neg e, if_neg (fun w => e w.1)])
    (fun b hb _ => by rw [o2 11 (by decide)]; exact (s1 b hb).2.2)
    (fun b hb => ⟨hle b hb, fun _ => by
      have hs3 := (c1 b hb).2.2
      rw [o3 b (by omega), s5 b (by omega), if_pos hb, if_pos ⟨hb, nI_nm1 (by omega)⟩, (s1 b hb).1, (s1 b hb).2.1, s2 b lo hb hlo, vlim_spec (c1 b hb).1 (c3 b lo hb hlo) (by have := (c1 b hb).2.1; omega)]
      rfl⟩)
  have w3' : cpC n (h 0 0 * h 0 1) (fun _ => true) S' (slH n h lo (fun _ => true)) := w3
  obtain ⟨p1, p2, p3, p4, p5, p6, p7, p8⟩ := w3'
  have fr : ∀ j, (j ≤ 10 ∨ 16 < j ∨ j = 13) → S' j = S j := fun j hj => by rw [w4 j (by omega), o2 j (by omega)]
  have hb' : ∀ b, b < n → bitS (S' 11 1) b = decide (h 1 b ≠ 0) := fun b hb => w2.2.2.2.2.2.2.1 b hb rfl
  have h12 : ∀ b, b < 6 → S' 12 b = if b < n then nI ((slH n h lo (fun _ => true)).1 b) else -1 := fun b hb => by
    by_cases e : b < n
    · rw [if_pos e]; exact p2 b e rfl
    · rw [if_neg e, w5 b (by omega), o2 12 (by decide), s5 b hb, if_neg e]
  have base : ∀ S3 : MS, (∀ j, j ≠ 13 → S3 j = S' j) → (∀ b, b < n → S3 13 b = nI (nxH n h lo 2 b)) → rwC n (nxH n h lo) S3 := fun S3 e1 e2 => by
    refine ⟨⟨?_, ?_⟩, ?_, fun b hb => ⟨?_, e2 b hb, ?_⟩, fun b lot hb hl => ?_, fun b hb => ?_⟩
    · rw [e1 10 (by decide), fr 10 (by decide)]; exact r2
    · rw [e1 10 (by decide), fr 10 (by decide)]; exact r3
    · rw [e1 10 (by decide), fr 10 (by decide)]; exact s4
    · rw [e1 20 (by decide), fr 20 (by decide)]; exact (s1 b hb).1
    · rw [e1 11 (by decide)]; exact hb' b hb
    · rw [e1 23 (by decide), fr 23 (by decide)]; exact s2 b lot hb hl
    · rw [e1 12 (by decide)]; exact h12 b hb
  unfold fX0_sellOn
  rw [o1, Option.bind_some, w1, Option.bind_some, p4]
  rcases hpay with ⟨q1, q2⟩ | ⟨q1, q2⟩
  · rw [q1, encP_k, if_pos rfl]
    refine ⟨S', by rw [p3]; rfl, base S' (fun _ _ => rfl) (fun b hb => ?_), fun j hj => fr j (by omega)⟩
    rw [nxH_2, if_neg (by omega), fr 13 (by decide)]
    exact (s1 b hb).2.1
  · rw [encP_lt (by omega), if_neg (m9_ne (by omega)), gd_nI (show (slH n h lo (fun _ => true)).2.2.1 < 6 by omega) (by decide), gd_nI (show (slH n h lo (fun _ => true)).2.2.1 < 6 by omega) (by decide), nI_clamp (show (slH n h lo (fun _ => true)).2.2.1 < 2 ^ 31 by omega)]
    refine ⟨u2 S' 13 (slH n h lo (fun _ => true)).2.2.1 (S' 13 (slH n h lo (fun _ => true)).2.2.1 - S' 11 4), congrArg (fun x => some (x, u2 S' 13 (slH n h lo (fun _ => true)).2.2.1 (S' 13 (slH n h lo (fun _ => true)).2.2.1 - S' 11 4))) p3, base _ (fun j hj => u2_ne _ _ _ hj) (fun b hb => ?_), fun j hj => ?_⟩
    · rw [u2_at, nxH_2]
      by_cases e : b = (slH n h lo (fun _ => true)).2.2.1
      · rw [← e, upd_at, if_pos rfl, fr 13 (by decide), (s1 b hb).2.1, p3, pk_sub (by rw [e]; exact q2)]
      · rw [upd_ne _ _ e, if_neg e, fr 13 (by decide)]
        exact (s1 b hb).2.1
    · rw [u2_ne _ _ _ (by omega)]; exact fr j (by omega)
/-! the reference in a row of sales -/
def rwM (n : Nat) (h : Nat → Nat → Nat) (M : MS) : Prop :=
  (M 2 0 = nI (h 0 1) ∧ M 3 0 = nI n ∧ M 8 0 = nI (h 0 2)) ∧
  (∀ b, b < n → M 4 b = nI (h 1 b) ∧ M 5 b = nI (h 2 b) ∧ M 15 b = nI (h 3 b)) ∧
  ∀ b lot, b < n → lot < 4 → M 7 (4 * b + lot) = nI (h 4 (4 * b + lot))
theorem onM_s {n : Nat} {h : Nat → Nat → Nat} {M : MS} {lo : Nat} (k1 : hOK n h) (h2n : 2 ≤ n) (hlo : lo < 4) (k2 : rwM n h M) :
    ∃ M', fX9_sell (nI lo) (fX9_all M) M = some M' ∧ cpM n M' (slH n h lo (fun _ => true)) ∧ ∀ j, (j < 15 ∨ 19 < j) → M' j = M j := by
  have hR := k1.seats
  have hle := fun b => lmH_le (lo := lo) (pr := fun _ => true) k1 h2n (b := b)
  obtain ⟨⟨a1, a2, a3⟩, ⟨b1, b2, b3, b4, b5, b6⟩, c1, c2, c3, c4⟩ := k1.big h2n
  obtain ⟨⟨r2, r3, r4⟩, s1, s2⟩ := k2
  obtain ⟨M', w1, w2, w3, w4⟩ := sell_s (n := n) (W := h 0 1) (R := h 0 0) (law := h 0 2) (lo := lo) (may := fX9_all M) (kd := h 1) (lim := lmH h lo (fun _ => true)) (se := h 3) (pr := fun _ => true) (M := M) hR
    ⟨a2, b3, b4, b5, r2, r3, r4, fun b hb => ⟨(s1 b hb).1, (c1 b hb).1⟩, fun b hb => ⟨hle b hb, Or.inl ⟨all_s a2 hb r3, by
      have e : lmH h lo (fun _ => true) b = lmt (h 1 b) (h 4 (4 * b + lo)) (h 2 b) := if_pos rfl
      rw [e]
      exact limitOf_spec (by omega) hlo (c1 b hb).1 (c3 b lo hb hlo) (by have := (c1 b hb).2.1; omega) (s1 b hb).1 (s1 b hb).2.1 (s2 b lo hb hlo)⟩⟩⟩
    (fun b hb => (c1 b hb).2.2) c2 (fun b hb => by
      rw [(s1 b hb).2.2, if_pos rfl, encP_lt (by have := (c1 b hb).2.2; omega)])
  exact ⟨M', w1, w2, w4⟩
