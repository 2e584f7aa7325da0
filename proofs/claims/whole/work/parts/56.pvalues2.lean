/-! values: the classes' trial of a limit -/
theorem rdSo_s {n : Nat} {h : Nat → Nat → Nat} {S : MS} {j lo v : Nat} (k1 : hOK n h) (k3 : rC n h S) (h2n : 2 ≤ n) (hlo : lo < 4) (hj : j < n) (hv : v ≤ 99) :
    ∃ S', fX8_isReadingSo n (nI j) (nI lo) (nI (lmt (h 1 j) v (h 2 j))) S = some ((if ownB n h j lo v = true then 1 else 0), S') ∧ ∀ i, (i ≤ 10 ∨ 16 < i) → S' i = S i := by
  have hn := k1.le6
  have hR := k1.seats
  have k1v := k1.wv (j := j) (lo := lo) h2n hv
  have hle := fun b => lmH_le (lo := lo) (pr := fun _ => true) k1v h2n (b := b)
  obtain ⟨⟨a1, a2, a3⟩, ⟨b1, b2, b3, b4, b5, b6⟩, c1, c2, c3, c4⟩ := k1.big h2n
  unfold fX8_isReadingSo
  rw [has_s k1 k3 h2n hlo, Option.bind_some]
  by_cases eh : hsB h (h 0 3) lo = true
  · obtain ⟨S1, S2, o1, o2, o3, o4, o5, o6⟩ := off_s (lo := lo) k1 k3 h2n hlo
    have f3 : ∀ i, i ≠ 14 → i ≠ 12 → i ≠ 11 → i ≠ 13 → u2 S2 14 j (nI (lmt (h 1 j) v (h 2 j))) i = S i := fun i q1 q2 q3 q4 => (u2_ne _ _ _ q1).trans (o3 i q1 q2 q3 q4)
    obtain ⟨S', w1, w2, w3, w4⟩ := hold_s (n := n) (W := h 0 1) (R := h 0 0) (law := h 0 2) (kd := h 1) (lim := lmH (hu h 4 (4 * j + lo) v) lo (fun _ => true)) (se := h 3) (pr := fun _ => true) (S := u2 S2 14 j (nI (lmt (h 1 j) v (h 2 j)))) hn b3 b4 b5 hR
      (by rw [f3 10 (by decide) (by decide) (by decide) (by decide)]; exact k3.1.2.1)
      (by rw [f3 10 (by decide) (by decide) (by decide) (by decide)]; exact k3.1.2.2.1)
      (by rw [f3 10 (by decide) (by decide) (by decide) (by decide)]; exact fun s hs => (k3.2.2.2.2 h2n s hs).1)
      (by rw [f3 10 (by decide) (by decide) (by decide) (by decide)]; exact fun s hs => (k3.2.2.2.2 h2n s hs).2)
      (fun b hb => (c1 b hb).2.2) c2 o4 (fun b hb _ => o5 b hb)
      (fun b hb => ⟨hle b hb, fun _ => by
        show upd (S2 14) j (nI (lmt (h 1 j) v (h 2 j))) b = nI (lmt (h 1 b) (hu h 4 (4 * j + lo) v 4 (4 * b + lo)) (h 2 b))
        by_cases e : b = j
        · rw [e, upd_at, hu_at]
        · rw [upd_ne _ _ e, o6 b hb, hu_ne _ (show 4 * b + lo ≠ 4 * j + lo by omega)]
          rfl⟩)
    have hfr : ∀ i, (i ≤ 10 ∨ 16 < i) → S' i = S i := fun i hi => (w4 i (by omega)).trans (f3 i (by omega) (by omega) (by omega) (by omega))
    have hp : S' 11 4 = nI (prH n (hu h 4 (4 * j + lo) v) lo) := w3.2.2.1
    refine ⟨S', ?_, hfr⟩
    rw [if_pos eh, if_neg z10, o1, Option.bind_some, o2, Option.bind_some, gd_nI (show j < 6 by omega) (by decide), nI_clamp (show j < 2 ^ 31 by omega), w1, Option.bind_some, hp, agr_s k1 (k3.cg (eqC_of hfr)) h2n hlo (prH_le k1v h2n), Option.bind_some]
    show zb (if ownB n h j lo v = true then 1 else 0) (some ((if ownB n h j lo v = true then 1 else 0), S')) = _
    unfold zb
    by_cases e : ownB n h j lo v = true
    · rw [if_pos e, if_pos (Or.inr rfl)]
    · rw [if_neg e, if_pos (Or.inl rfl)]
  · refine ⟨S, ?_, fun _ _ => rfl⟩
    rw [if_neg eh, if_pos rfl, own_no eh, if_pos rfl]
theorem own_lim {n : Nat} {h : Nat → Nat → Nat} {j lo v v' : Nat} (e : lmt (h 1 j) v (h 2 j) = lmt (h 1 j) v' (h 2 j)) : ownB n h j lo v = ownB n h j lo v' := by
  have hl : lmH (hu h 4 (4 * j + lo) v) lo (fun _ => true) = lmH (hu h 4 (4 * j + lo) v') lo (fun _ => true) := by
    funext b
    show lmt (h 1 b) (hu h 4 (4 * j + lo) v 4 (4 * b + lo)) (h 2 b) = lmt (h 1 b) (hu h 4 (4 * j + lo) v' 4 (4 * b + lo)) (h 2 b)
    by_cases eb : b = j
    · rw [eb, hu_at, hu_at]; exact e
    · rw [hu_ne _ (show 4 * b + lo ≠ 4 * j + lo by omega), hu_ne _ (show 4 * b + lo ≠ 4 * j + lo by omega)]
  have hp : prH n (hu h 4 (4 * j + lo) v) lo = prH n (hu h 4 (4 * j + lo) v') lo := by
    show (sal n (h 0 1) (h 0 2) (h 1) (lmH (hu h 4 (4 * j + lo) v) lo (fun _ => true)) 99 (sg0 (fun _ => true) (h 3))).2.1 = (sal n (h 0 1) (h 0 2) (h 1) (lmH (hu h 4 (4 * j + lo) v') lo (fun _ => true)) 99 (sg0 (fun _ => true) (h 3))).2.1
    rw [hl]
  unfold ownB
  rw [hp]
