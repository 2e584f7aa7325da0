/-! whether the readings are so; the places -/
def prH (n : Nat) (h : Nat → Nat → Nat) (lo : Nat) : Nat := (slH n h lo (fun _ => true)).2.1
def soB (n : Nat) (h : Nat → Nat → Nat) (ex : Nat) : Bool := (List.range (h 0 3)).all fun r => (h 5 r == ex) || (prH n h (h 5 r) == h 6 r)
theorem soB_iff {n : Nat} {h : Nat → Nat → Nat} {ex : Nat} : soB n h ex = true ↔ ∀ r, r < h 0 3 → h 5 r ≠ ex → prH n h (h 5 r) = h 6 r := by
  unfold soB
  rw [List.all_eq_true]
  constructor
  · intro w r hr e
    have := w r (List.mem_range.mpr hr)
    simpa [e] using this
  · intro w r hr
    have := w r (List.mem_range.mp hr)
    by_cases e : h 5 r = ex
    · simp [e]
    · simp [this e]
theorem prH_le {n : Nat} {h : Nat → Nat → Nat} {lo : Nat} (k1 : hOK n h) (h2n : 2 ≤ n) : prH n h lo ≤ 99 := (slH_ok lo (fun _ => true) k1 h2n).pr (fun b hb => lmH_le k1 h2n lo _ hb)
theorem areSo_l {n : Nat} {h : Nat → Nat → Nat} {k : Int32 → MS → Option (Int32 × MS)} (k1 : hOK n h) (h2n : 2 ≤ n) :
    ∀ d i fu (M : MS), i + d = h 0 3 → d + 1 < fu → rM n h M → (∀ r, r < i → prH n h (h 5 r) = h 6 r) → ∃ M', fX9_areSo_4 fu k 1 (nI i) M = k (if soB n h 4 = true then 1 else 0) M' ∧ ∀ j, (j < 15 ∨ 19 < j) → M' j = M j := by
  have hn := k1.le6
  have c := k1.big h2n
  have hm := c.2.1.2.2.2.2.2
  intro d
  induction d with
  | zero =>
    intro i fu M hi hf k2 hno
    obtain ⟨f, rfl⟩ : ∃ f, fu = f + 1 := ⟨fu - 1, by omega⟩
    refine ⟨M, ?_, fun _ _ => rfl⟩
    rw [fX9_areSo_4, k2.1.2.2.2.2, if_pos (nI_le (by omega) (by omega)), if_pos (soB_iff.mpr (fun r hr _ => hno r (by omega)))]
  | succ d ih =>
    intro i fu M hi hf k2 hno
    obtain ⟨f, rfl⟩ : ∃ f, fu = f + 2 := ⟨fu - 2, by omega⟩
    have him : i < h 0 3 := by omega
    have c5 := c.2.2.2.2.2 i him
    obtain ⟨M1, w1, w2, w3, w4⟩ := toM_s (lo := h 5 i) (may := fX9_all M) (pr := fun _ => true) k1 k2 h2n c5.1 (fun b hb => all_b hn k2.1.2.2.1 hb)
    have hp : M1 16 0 = nI (prH n h (h 5 i)) := w2.2.1
    have hple := prH_le (lo := h 5 i) k1 h2n
    have k2' := k2.cg (eqM_of w4)
    rw [fX9_areSo_4, k2.1.2.2.2.2, if_neg (nI_ge him (by omega)), if_neg z10, gd_nI (show i < 6 by omega) (by decide), nI_clamp (show i < 2 ^ 31 by omega), (k2.2.2.2 i him).1, w1, Option.bind_some, gd_nI (show i < 6 by omega) (by decide), hp, (k2'.2.2.2 i him).2, nI_1]
    by_cases e : prH n h (h 5 i) = h 6 i
    · rw [if_pos (by rw [e])]
      obtain ⟨M', v1, v2⟩ := ih (i + 1) (f + 1) M1 (by omega) (by omega) k2' (fun r hr => by
        rcases Nat.lt_or_ge r i with q | q
        · exact hno r q
        · rw [show r = i by omega]; exact e)
      exact ⟨M', v1, fun j hj => (v2 j hj).trans (w4 j hj)⟩
    · refine ⟨M1, ?_, w4⟩
      rw [if_neg (fun w => e ((nI_eq (by omega) (by omega)).mp w)), fX9_areSo_4, if_neg (show ¬ soB n h 4 = true from fun w => e (soB_iff.mp w i him (by omega)))]
      by_cases e2 : M1 24 0 ≤ nI (i + 1)
      · rw [if_pos e2]
      · rw [if_neg e2, if_pos rfl]
theorem areSo_s {n : Nat} {h : Nat → Nat → Nat} {M : MS} (k1 : hOK n h) (h2n : 2 ≤ n) (k2 : rM n h M) : ∃ M', fX9_areSo M = some ((if soB n h 4 = true then 1 else 0), M') ∧ ∀ j, (j < 15 ∨ 19 < j) → M' j = M j := by
  have hm := (k1.big h2n).2.1.2.2.2.2.2
  obtain ⟨M', w1, w2⟩ := areSo_l (k := fun x8 M9 => (zb x8 (some (x8, M9)))) k1 h2n (h 0 3) 0 300 M (by omega) (by omega) k2 (fun r hr => absurd hr (Nat.not_lt_zero r))
  refine ⟨M', Eq.trans w1 ?_, w2⟩
  show zb _ (some (_, M')) = _
  unfold zb
  by_cases e : soB n h 4 = true
  · rw [if_pos e, if_pos (Or.inr rfl)]
  · rw [if_neg e, if_pos (Or.inl rfl)]
theorem readC_l {n : Nat} {h : Nat → Nat → Nat} {j s ex : Nat} {v3 : Int32} (k0 : hOK n h) (k1 : hOK n (hu h 3 j s)) (h2n : 2 ≤ n) (hj : j < n) (hex : ∀ i, i < 4 → (nI i = v3 ↔ i = ex)) :
    ∀ d i fu (S : MS), i + d = 4 → d < fu → rC n h S → (∀ r, r < h 0 3 → h 5 r < i → h 5 r ≠ ex → prH n (hu h 3 j s) (h 5 r) = h 6 r) → ∃ S', fX8_areReadingsSo_3 n fu (fun M11 => (some (1, M11))) (nI j) (nI s) v3 (nI i) S = some ((if soB n (hu h 3 j s) ex = true then 1 else 0), S') ∧ ∀ i, (i ≤ 10 ∨ 16 < i) → S' i = S i := by
  have c := k0.big h2n
  intro d
  induction d with
  | zero =>
    intro i fu S hi hf k3 hno
    obtain ⟨f, rfl⟩ : ∃ f, fu = f + 1 := ⟨fu - 1, by omega⟩
    refine ⟨S, ?_, fun _ _ => rfl⟩
    rw [fX8_areReadingsSo_3, if_pos (show (4 : Int32) ≤ nI i from nI_le (a := 4) (by omega) (by omega)), if_pos (soB_iff.mpr (fun r hr e => hno r hr (by have := (c.2.2.2.2.2 r hr).1; omega) e))]
  | succ d ih =>
    intro i fu S hi hf k3 hno
    obtain ⟨f, rfl⟩ : ∃ f, fu = f + 1 := ⟨fu - 1, by omega⟩
    have hi4 : i < 4 := by omega
    rw [fX8_areReadingsSo_3, if_neg (show ¬ (4 : Int32) ≤ nI i from nI_ge (b := 4) (by omega) (by decide)), nI_1]
    by_cases e0 : i = ex
    · rw [if_pos ((hex i hi4).mpr e0)]
      exact ih (i + 1) f S (by omega) (by omega) k3 (fun r hr q1 q2 => hno r hr (by omega) q2)
    · rw [if_neg (fun w => e0 ((hex i hi4).mp w)), has_s k0 k3 h2n hi4, Option.bind_some]
      by_cases eh : hsB h (h 0 3) i = true
      · obtain ⟨S1, w1, w2, w4⟩ := fromC_s (lo := i) k1 k3 h2n hi4 hj
        have k3' := k3.cg (eqC_of w4)
        have hp : S1 11 4 = nI (prH n (hu h 3 j s) i) := w2.2.2.1
        rw [if_pos eh, if_neg z10, w1, Option.bind_some, hp, agr_s k0 k3' h2n hi4 (prH_le k1 h2n), Option.bind_some]
        by_cases ea : agB h (h 0 3) i (prH n (hu h 3 j s) i) = true
        · rw [if_pos ea, if_neg z10]
          obtain ⟨S', v1, v2⟩ := ih (i + 1) f S1 (by omega) (by omega) k3' (fun r hr q1 q2 => by
            rcases Nat.lt_or_ge (h 5 r) i with q | q
            · exact hno r hr q q2
            · have e5 : h 5 r = i := by omega
              rw [e5]; exact (agB_iff.mp ea r hr e5).symm)
          exact ⟨S', v1, fun x hx => (v2 x hx).trans (w4 x hx)⟩
        · rw [if_neg ea, if_pos rfl, if_neg (fun w => ea (agB_iff.mpr (fun r hr e => by
            have := soB_iff.mp w r hr (by show h 5 r ≠ ex; omega)
            have t : prH n (hu h 3 j s) (h 5 r) = h 6 r := this
            rw [e] at t; exact t.symm)))]
          exact ⟨S1, rfl, w4⟩
      · rw [if_neg eh, if_pos rfl]
        exact ih (i + 1) f S (by omega) (by omega) k3 (fun r hr q1 q2 => by
          rcases Nat.lt_or_ge (h 5 r) i with q | q
          · exact hno r hr q q2
          · exact absurd (hsB_iff.mpr ⟨r, hr, by omega⟩) eh)
