/-! values: a worth put for another -/
theorem hu4_ne (h : Nat → Nat → Nat) {k v i : Nat} (e : i ≠ k) : hu h 4 k v 4 i = h 4 i := hu_ne h e
theorem lmH_v {h : Nat → Nat → Nat} {j lo lo' v : Nat} {pr : Nat → Bool} (hlo : lo < 4) (hlo' : lo' < 4) (e : lo' ≠ lo) : lmH (hu h 4 (4 * j + lo) v) lo' pr = lmH h lo' pr := by
  funext b
  unfold lmH
  show (if pr b = true then lmt (h 1 b) (hu h 4 (4 * j + lo) v 4 (4 * b + lo')) (h 2 b) else 0) = _
  rw [hu4_ne h (show 4 * b + lo' ≠ 4 * j + lo by omega)]
theorem prH_v {n : Nat} {h : Nat → Nat → Nat} {j lo lo' v : Nat} (hlo : lo < 4) (hlo' : lo' < 4) (e : lo' ≠ lo) : prH n (hu h 4 (4 * j + lo) v) lo' = prH n h lo' := by
  show (sal n (h 0 1) (h 0 2) (h 1) (lmH (hu h 4 (4 * j + lo) v) lo' (fun _ => true)) 99 (sg0 (fun _ => true) (h 3))).2.1 = (sal n (h 0 1) (h 0 2) (h 1) (lmH h lo' (fun _ => true)) 99 (sg0 (fun _ => true) (h 3))).2.1
  rw [lmH_v hlo hlo' e]
theorem hOK.wv {n : Nat} {h : Nat → Nat → Nat} {j lo v : Nat} (k : hOK n h) (h2n : 2 ≤ n) (hv : v ≤ 99) : hOK n (hu h 4 (4 * j + lo) v) := by
  have c := k.big h2n
  refine Or.inr ⟨c.1, c.2.1, c.2.2.1, c.2.2.2.1, fun b lot hb hl => ?_, c.2.2.2.2.2⟩
  by_cases e : 4 * b + lot = 4 * j + lo
  · rw [e, hu_at]; exact hv
  · rw [hu_ne _ e]; exact c.2.2.2.2.1 b lot hb hl
theorem rM.wv {n : Nat} {h : Nat → Nat → Nat} {M : MS} (k2 : rM n h M) (j lo v : Nat) : rM n (hu h 4 (4 * j + lo) v) (u2 M 7 (4 * j + lo) (nI v)) := by
  refine ⟨k2.1, k2.2.1, fun b lot hb hl => ?_, k2.2.2.2⟩
  show upd (M 7) (4 * j + lo) (nI v) (4 * b + lot) = _
  by_cases e : 4 * b + lot = 4 * j + lo
  · rw [e, upd_at, hu_at]
  · rw [upd_ne _ _ e, hu_ne _ e]; exact k2.2.2.1 b lot hb hl
/-- what the readings of the lot itself say of a worth -/
def ownB (n : Nat) (h : Nat → Nat → Nat) (j lo v : Nat) : Bool := agB h (h 0 3) lo (prH n (hu h 4 (4 * j + lo) v) lo)
theorem soB_v {n : Nat} {h : Nat → Nat → Nat} {j lo v : Nat} (k1 : hOK n h) (h2n : 2 ≤ n) (hlo : lo < 4) : soB n (hu h 4 (4 * j + lo) v) 4 = (soB n h lo && ownB n h j lo v) := by
  have c := k1.big h2n
  have key : soB n (hu h 4 (4 * j + lo) v) 4 = true ↔ (soB n h lo && ownB n h j lo v) = true := by
    rw [Bool.and_eq_true, soB_iff, soB_iff]
    unfold ownB
    rw [agB_iff]
    constructor
    · intro w
      refine ⟨fun r hr e => ?_, fun r hr e => ?_⟩
      · have h4 := (c.2.2.2.2.2 r hr).1
        have t : prH n (hu h 4 (4 * j + lo) v) (h 5 r) = h 6 r := w r hr (by show h 5 r ≠ 4; omega)
        rw [prH_v hlo h4 e] at t; exact t
      · have h4 := (c.2.2.2.2.2 r hr).1
        have t : prH n (hu h 4 (4 * j + lo) v) (h 5 r) = h 6 r := w r hr (by show h 5 r ≠ 4; omega)
        rw [e] at t; exact t.symm
    · rintro ⟨w1, w2⟩ r hr e
      have hr' : r < h 0 3 := hr
      have h4 := (c.2.2.2.2.2 r hr').1
      show prH n (hu h 4 (4 * j + lo) v) (h 5 r) = h 6 r
      by_cases e5 : h 5 r = lo
      · rw [e5]; exact (w2 r hr' e5).symm
      · rw [prH_v hlo h4 e5]; exact w1 r hr' e5
  cases h1 : soB n (hu h 4 (4 * j + lo) v) 4 with
  | true => exact (key.mp h1).symm
  | false =>
    cases h2 : (soB n h lo && ownB n h j lo v) with
    | true => have := key.mpr h2; rw [h1] at this; cases this
    | false => rfl
theorem own_no {n : Nat} {h : Nat → Nat → Nat} {j lo v : Nat} (e : ¬ hsB h (h 0 3) lo = true) : ownB n h j lo v = true := by
  unfold ownB
  exact agB_iff.mpr (fun r hr e2 => absurd (hsB_iff.mpr ⟨r, hr, e2⟩) e)
