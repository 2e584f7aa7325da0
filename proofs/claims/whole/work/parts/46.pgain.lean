/-! gains -/
theorem sal_ok {n W R law : Nat} {kd lim : Nat → Nat} (hW : 2 ≤ W) (hW6 : W ≤ 6) : ∀ d (σ : SS), okS n W (R * W) lim σ → okS n W (R * W) lim (sal n W law kd lim d σ) := by
  intro d
  induction d with
  | zero => intro σ h; exact h
  | succ d ih =>
    intro σ h
    rw [sal]
    cases hc : nx (elB n W law kd lim σ) σ.1 n with
    | none => exact h
    | some b =>
      have hb := nx_some hc
      exact ih _ (bs_ok h hW hW6 hb.1 hb.2.1)
theorem slH_ok {n : Nat} {h : Nat → Nat → Nat} (lo : Nat) (pr : Nat → Bool) (k1 : hOK n h) (h2n : 2 ≤ n) : okS n (h 0 1) (h 0 0 * h 0 1) (lmH h lo pr) (slH n h lo pr) := by
  obtain ⟨⟨a1, a2, a3⟩, ⟨b1, b2, b3, b4, b5, b6⟩, c1, c2, c3, c4⟩ := k1.big h2n
  exact sal_ok b3 b4 99 _ (sg0_ok (fun b hb => (c1 b hb).2.2) c2)
def gnH (n : Nat) (h : Nat → Nat → Nat) (lo j : Nat) : Nat := if (slH n h lo (fun _ => true)).2.2.1 = j then h 4 (4 * j + lo) - (slH n h lo (fun _ => true)).2.1 else 0
theorem gn_l {n : Nat} {h : Nat → Nat → Nat} {lo j : Nat} (k1 : hOK n h) (h2n : 2 ≤ n) (hj : j < n) (e : (slH n h lo (fun _ => true)).2.2.1 = j) : (slH n h lo (fun _ => true)).2.1 ≤ h 4 (4 * j + lo) := by
  have ok := slH_ok lo (fun _ => true) k1 h2n
  rcases ok.2.2.1 with q | q
  · omega
  · have h1 := q.2
    rw [e] at h1
    have h2 : lmH h lo (fun _ => true) j = lmt (h 1 j) (h 4 (4 * j + lo)) (h 2 j) := if_pos rfl
    have h3 := (lmt_le (h 1 j) (h 4 (4 * j + lo)) (h 2 j)).1
    omega
theorem gainM_s {n : Nat} {h : Nat → Nat → Nat} {M : MS} {lo j : Nat} (k1 : hOK n h) (k2 : rM n h M) (h2n : 2 ≤ n) (hlo : lo < 4) (hj : j < n) :
    ∃ M', fX9_gainOf (nI j) (nI lo) M = some (nI (gnH n h lo j), M') ∧ ∀ i, (i < 15 ∨ 19 < i) → M' i = M i := by
  have hn := k1.le6
  obtain ⟨M', w1, w2, w3, w4⟩ := toM_s (lo := lo) (may := fX9_all M) (pr := fun _ => true) k1 k2 h2n hlo (fun b hb => all_b hn k2.1.2.2.1 hb)
  refine ⟨M', ?_, w4⟩
  unfold fX9_gainOf gnH
  rw [w1, Option.bind_some, w2.2.2.1]
  by_cases e : (slH n h lo (fun _ => true)).2.2.1 = j
  · rw [if_pos ((encP_eq (w3.own hn) (by omega)).mpr e), if_pos e, idx4, gd_nI (show 4 * j + lo < 24 by omega) (by decide), nI_clamp (show 4 * j + lo < 2 ^ 31 by omega), w4 7 (by decide), k2.2.2.1 j lo hj hlo, w2.2.1, pk_sub (gn_l k1 h2n hj e)]
  · rw [if_neg (fun w => e ((encP_eq (w3.own hn) (by omega)).mp w)), if_neg e]; rfl
theorem fromC_s {n : Nat} {h : Nat → Nat → Nat} {S : MS} {lo j s : Nat} (k1 : hOK n (hu h 3 j s)) (k3 : rC n h S) (h2n : 2 ≤ n) (hlo : lo < 4) (hj : j < n) :
    ∃ S', fX8_sellFrom n (nI j) (nI s) (nI lo) S = some S' ∧ cpC n (h 0 0 * h 0 1) (fun _ => true) S' (slH n (hu h 3 j s) lo (fun _ => true)) ∧ ∀ i, (i ≤ 10 ∨ 16 < i) → S' i = S i := by
  have hR : h 0 0 * h 0 1 ≤ 24 := k1.seats
  have hle := fun b => lmH_le (lo := lo) (pr := fun _ => true) k1 h2n (b := b)
  obtain ⟨⟨a1, a2, a3⟩, ⟨b1, b2, b3, b4, b5, b6⟩, c1, c2, c3, c4⟩ := k1.big h2n
  obtain ⟨⟨r1, r2, r3, r4⟩, s1, s2, s3, s4⟩ := k3
  have c1' : ∀ b, b < n → h 1 b < 3 ∧ h 2 b ≤ 99 ∧ hu h 3 j s 3 b < h 0 0 * h 0 1 := c1
  have c3' : ∀ b lot, b < n → lot < 4 → h 4 (4 * b + lot) ≤ 99 := c3
  obtain ⟨S1, g1, g2, g3, g4, g5⟩ := gather_s (mask := 63) a2 S
  obtain ⟨S2, o1, o2, o3⟩ := offer_s (n := n) a2 hlo (u2 S1 12 j (nI s))
  have i12 : ∀ b, b < 6 → S2 12 b = if b < n ∧ (fun (_ : Nat) => true) b = true then nI (hu h 3 j s 3 b) else -1 := fun b hb => by
    rw [o2 12 (by decide)]
    show upd (S1 12) j (nI s) b = _
    by_cases e : b = j
    · rw [e, upd_at, if_pos ⟨hj, rfl⟩, hu_at]
    · rw [upd_ne _ _ e, g3 b hb, hu_ne _ e]
      by_cases e1 : b < n
      · rw [if_pos ⟨e1, q_63 b hb⟩, if_pos ⟨e1, rfl⟩, (s1 b e1).2.2]
      · rw [if_neg (fun w => e1 w.1), if_neg (fun w => e1 w.1)]
  have f2 : ∀ i, i ≠ 14 → i ≠ 12 → i ≠ 11 → i ≠ 13 → S2 i = S i := fun i h1 h2 h3 h4 => by
    rw [o2 i h1, u2_ne _ _ _ h2, g2 i h3 h2 h4]
  obtain ⟨S', w1, w2, w3, w4⟩ := hold_s (n := n) (W := h 0 1) (R := h 0 0) (law := h 0 2) (kd := h 1) (lim := lmH (hu h 3 j s) lo (fun _ => true)) (se := hu h 3 j s 3) (pr := fun _ => true) (S := S2) a2 b3 b4 b5 hR
    (by rw [f2 10 (by decide) (by decide) (by decide) (by decide)]; exact r2)
    (by rw [f2 10 (by decide) (by decide) (by decide) (by decide)]; exact r3)
    (by rw [f2 10 (by decide) (by decide) (by decide) (by decide)]; exact fun s hs => (s4 h2n s hs).1)
    (by rw [f2 10 (by decide) (by decide) (by decide) (by decide)]; exact fun s hs => (s4 h2n s hs).2)
    (fun b hb => (c1' b hb).2.2) c2 i12
    (fun b hb hb2 => by
      rw [o2 11 (by decide), show u2 S1 12 j (nI s) 11 = S1 11 from rfl, g5 b (by omega), (s1 b hb).1]
      congr 1
      exact propext ⟨fun w e => w.2.2 ((vhat_s (c1' b hb).1).mpr e), fun w => ⟨hb, q_63 b (by omega), fun e => w ((vhat_s (c1' b hb).1).mp e)⟩⟩)
    (fun b hb => ⟨hle b hb, fun hb2 => by
      have hs3 := (c1' b hb).2.2
      have hS1 : u2 S1 12 j (nI s) 12 b = nI (hu h 3 j s 3 b) := by
        rw [← o2 12 (by decide), i12 b (by omega), if_pos ⟨hb, rfl⟩]
      rw [o3 b (by omega), hS1, if_pos ⟨hb, nI_nm1 (by omega)⟩, show u2 S1 12 j (nI s) 20 = S1 20 from rfl, show u2 S1 12 j (nI s) 23 = S1 23 from rfl, show u2 S1 12 j (nI s) 13 = S1 13 from rfl, g2 20 (by decide) (by decide) (by decide), g2 23 (by decide) (by decide) (by decide), g4 b (by omega), if_pos ⟨hb, q_63 b (by omega)⟩, (s1 b hb).1, (s1 b hb).2.1, s2 b lo hb hlo, vlim_spec (c1' b hb).1 (c3' b lo hb hlo) (by have := (c1' b hb).2.1; omega)]
      rfl⟩)
  refine ⟨S', ?_, w3, fun i hi => ?_⟩
  · unfold fX8_sellFrom
    rw [g1, Option.bind_some, gd_nI (show j < 6 by omega) (by decide), nI_clamp (show j < 2 ^ 31 by omega), o1, Option.bind_some, w1, Option.bind_some]
  · rw [w4 i (by omega), f2 i (by omega) (by omega) (by omega) (by omega)]
theorem gainC_s {n : Nat} {h : Nat → Nat → Nat} {S : MS} {lo j s : Nat} (k1 : hOK n (hu h 3 j s)) (k3 : rC n h S) (h2n : 2 ≤ n) (hlo : lo < 4) (hj : j < n) :
    ∃ S', fX8_gainFrom n j (nI s) (nI lo) S = some (nI (gnH n (hu h 3 j s) lo j), S') ∧ ∀ i, (i ≤ 10 ∨ 16 < i) → S' i = S i := by
  have hn := k1.le6
  obtain ⟨S', w1, w2, w4⟩ := fromC_s (lo := lo) k1 k3 h2n hlo hj
  have ok := slH_ok lo (fun _ => true) k1 h2n
  refine ⟨S', ?_, w4⟩
  unfold fX8_gainFrom gnH
  rw [w1, Option.bind_some, w2.2.2.2.1]
  by_cases e : (slH n (hu h 3 j s) lo (fun _ => true)).2.2.1 = j
  · rw [if_pos ((encP_eq (ok.own hn) (by omega)).mpr e), if_pos e, gd_nI (show lo < 4 by omega) (by decide), nI_clamp (show lo < 2 ^ 31 by omega), w4 23 (by decide), k3.2.2.1 j lo hj hlo, w2.2.2.1]
    have hh : (slH n (hu h 3 j s) lo (fun _ => true)).2.1 ≤ h 4 (4 * j + lo) := gn_l k1 h2n hj e
    rw [pk_sub hh]; rfl
  · rw [if_neg (fun w => e ((encP_eq (ok.own hn) (by omega)).mp w)), if_neg e]; rfl
theorem hu_id (h : Nat → Nat → Nat) (j : Nat) : hu h 3 j (h 3 j) = h := by
  funext k i
  by_cases ek : k = 3
  · subst ek
    by_cases ei : i = j
    · subst ei; exact hu_at _ _ _ _
    · exact hu_ne _ ei
  · unfold hu
    have hb : Nat.beq k 3 = false := by
      cases hb : Nat.beq k 3 with
      | false => rfl
      | true => exact absurd (Nat.eq_of_beq_eq_true hb) ek
    rw [hb]; rfl
theorem op_gain (n : Nat) (S M : MS) (a1 a2 : Int32) (h : Inv n S M) : ∃ q qm, gC_gain n a1 a2 S = some q ∧ gM_gain a1 a2 M = some qm ∧ q.1 = qm.1 ∧ Inv n q.2 qm.2 := by
  have hI := h
  obtain ⟨h1, h2, h3, g, k1, k2, k3⟩ := h
  have hn := k1.le6
  unfold gC_gain gM_gain fX8_gain fX9_gain
  rcases buy_c hn a1 k2.1.2.2.1 with ⟨b, hb, rfl, e1, e2⟩ | ⟨e1, e2⟩
  · rcases lot_c a2 with ⟨lo, hlo, rfl, e3, e4⟩ | ⟨e3, e4⟩
    · rcases there_c (S := S) k1 k2 with ⟨t0, _, _⟩ | ⟨t0, t1, t2⟩
      · omega
      · obtain ⟨S', w1, w2⟩ := gainC_s (s := g 3 b) (lo := lo) (by rw [hu_id]; exact k1) k3 t0 hlo hb
        obtain ⟨M', v1, v2⟩ := gainM_s k1 k2 t0 hlo hb
        rw [hu_id] at w1
        simp only [e1, e2, e3, e4, z10, om_some, (k3.2.1 b hb).2.2, w1, v1, Option.bind_some, ↓reduceIte]
        refine ⟨_, _, rfl, rfl, ?_, hI.keep (eqC_of w2) (eqM_of v2)⟩
        show (100 : Int32) + nI (gnH n g lo b) = nI (gnH n g lo b) + 100
        rw [show (100 : Int32) = nI 100 from rfl, nI_add, nI_add, Nat.add_comm]
    · simp only [e1, e2, e3, e4, z10, om_some, ↓reduceIte]
      exact ⟨_, _, rfl, rfl, rfl, hI⟩
  · simp only [e1, e2, z10, om_none, ↓reduceIte]
    exact ⟨_, _, rfl, rfl, rfl, hI⟩
