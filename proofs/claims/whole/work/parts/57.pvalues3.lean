/-! values: the reference's loop -/
/-- the answers from v on: the first that is the p-th, and the count -/
def rsF (ow : Nat → Bool) (p : Int32) : Nat → Nat → Nat → Int32 → Int32 × Nat
  | 0, _, c, x => (x, c)
  | d + 1, v, c, x => if ow v then rsF ow p d (v + 1) (c + 1) (if nI c = p then nI v else x) else rsF ow p d (v + 1) c x
theorem valM_l {n : Nat} {h : Nat → Nat → Nat} {j lo : Nat} {p : Int32} {k : Int32 → Int32 → MS → Option (Int32 × MS)} (k1 : hOK n h) (h2n : 2 ≤ n) (hlo : lo < 4) (hj : j < n) :
    ∀ d v fu (M M0 : MS) (c : Nat) (x : Int32), v + d = 100 → d < fu → rM n h M0 → (∀ i, (i < 15 ∨ 19 < i) → i ≠ 7 → M i = M0 i) → (∀ i, i ≠ 4 * j + lo → M 7 i = M0 7 i) →
      ∃ M', fX9_values_44 fu k (nI j) (nI lo) p (nI c) x (nI v) M = k (nI (rsF (fun v => soB n h lo && ownB n h j lo v) p d v c x).2) (rsF (fun v => soB n h lo && ownB n h j lo v) p d v c x).1 M' ∧ (∀ i, (i < 15 ∨ 19 < i) → i ≠ 7 → M' i = M0 i) ∧ (∀ i, i ≠ 4 * j + lo → M' 7 i = M0 7 i) := by
  have hn := k1.le6
  intro d
  induction d with
  | zero =>
    intro v fu M M0 c x hv hf k2 f1 f2
    obtain ⟨f, rfl⟩ : ∃ f, fu = f + 1 := ⟨fu - 1, by omega⟩
    refine ⟨M, ?_, f1, f2⟩
    rw [fX9_values_44, if_pos (show (99 : Int32) < nI v from nI_lt (a := 99) (by omega) (by omega))]
    rfl
  | succ d ih =>
    intro v fu M M0 c x hv hf k2 f1 f2
    obtain ⟨f, rfl⟩ : ∃ f, fu = f + 1 := ⟨fu - 1, by omega⟩
    have hv99 : v ≤ 99 := by omega
    have e0 : eqM (u2 M0 7 (4 * j + lo) (nI v)) (u2 M 7 (4 * j + lo) (nI v)) := by
      refine ⟨fun i hi => ?_, fun i q1 q2 q3 => ?_⟩
      · by_cases e : i = 7
        · rw [e, u2_at, u2_at]
          funext y
          by_cases ey : y = 4 * j + lo
          · rw [ey, upd_at, upd_at]
          · rw [upd_ne _ _ ey, upd_ne _ _ ey]; exact f2 y ey
        · rw [u2_ne _ _ _ e, u2_ne _ _ _ e]; exact f1 i (by omega) e
      · rw [u2_ne _ _ _ (by omega), u2_ne _ _ _ (by omega)]; exact f1 i (by omega) (by omega)
    obtain ⟨M1, m1, m2⟩ := areSo_s (k1.wv (j := j) (lo := lo) h2n hv99) h2n ((k2.wv j lo v).cg e0)
    rw [soB_v k1 h2n hlo] at m1
    have g1 : ∀ i, (i < 15 ∨ 19 < i) → i ≠ 7 → M1 i = M0 i := fun i hi h7 => by
      rw [m2 i hi, u2_ne _ _ _ h7]; exact f1 i hi h7
    have g2 : ∀ i, i ≠ 4 * j + lo → M1 7 i = M0 7 i := fun i hi => by
      rw [m2 7 (by decide)]
      show upd (M 7) (4 * j + lo) (nI v) i = _
      rw [upd_ne _ _ hi]; exact f2 i hi
    rw [fX9_values_44, if_neg (show ¬ (99 : Int32) < nI v from nI_nlt (a := 99) hv99 (by decide)), idx4, gd_nI (show 4 * j + lo < 24 by omega) (by decide), nI_clamp (show 4 * j + lo < 2 ^ 31 by omega), m1, Option.bind_some, nI_1, nI_1]
    rw [rsF]
    cases hq : (soB n h lo && ownB n h j lo v) with
    | false =>
      simp only [Bool.false_eq_true, ↓reduceIte]
      exact ih (v + 1) f M1 M0 c x (by omega) (by omega) k2 g1 g2
    | true =>
      simp only [z10, ↓reduceIte]
      by_cases ec : nI c = p
      · rw [if_pos ec, if_pos ec]
        exact ih (v + 1) f M1 M0 (c + 1) _ (by omega) (by omega) k2 g1 g2
      · rw [if_neg ec, if_neg ec]
        exact ih (v + 1) f M1 M0 (c + 1) _ (by omega) (by omega) k2 g1 g2
