/-! copy -/
theorem copy107_l {a i m : Nat} {k : MS → Option (Int32 × MS)} (hm : m ≤ 60) (ha : 60 * a + i + m ≤ 240) : ∀ d x fu (M : MS), x + d = m → d < fu → ∃ M', fX9_copy_107 fu k (nI a) (nI i) (nI m) (nI x) M = k M' ∧ (∀ c, c ≠ 30 → M' c = M c) ∧ (∀ y, ¬ (x ≤ y ∧ y < m) → M' 30 y = M 30 y) ∧ ∀ y, x ≤ y → y < m → M' 30 y = M 29 (60 * a + i + y) := by
  intro d
  induction d with
  | zero =>
    intro x fu M hx hf
    obtain ⟨f, rfl⟩ : ∃ f, fu = f + 1 := ⟨fu - 1, by omega⟩
    rw [fX9_copy_107, if_pos (nI_le (by omega) (by omega))]
    exact ⟨M, rfl, fun _ _ => rfl, fun _ _ => rfl, fun y h1 h2 => by omega⟩
  | succ d ih =>
    intro x fu M hx hf
    obtain ⟨f, rfl⟩ : ∃ f, fu = f + 1 := ⟨fu - 1, by omega⟩
    rw [fX9_copy_107, if_neg (nI_ge (by omega) (by omega)), idx60, nI_add, gd_nI (show 60 * a + i + x < 240 by omega) (by decide), gd_nI (show x < 60 by omega) (by decide), nI_1, nI_clamp (by omega), nI_clamp (by omega)]
    obtain ⟨M', e, h1, h2, h3⟩ := ih (x + 1) f (u2 M 30 x (M 29 (60 * a + i + x))) (by omega) (by omega)
    refine ⟨M', e, fun c hc => by rw [h1 c hc, u2_ne _ _ _ hc], fun y hy => ?_, fun y hy hy2 => ?_⟩
    · rw [h2 y (by omega)]
      exact upd_ne _ _ (by omega)
    · by_cases e : y = x
      · subst e
        rw [h2 _ (by omega)]
        exact upd_at _ _ _
      · exact h3 y (by omega) hy2
theorem copy144_l {a i m : Nat} {k : MS → Option (Int32 × MS)} (hm : m ≤ 60) (ha : 60 * a + i + m ≤ 240) : ∀ d x fu (M : MS), x + d = m → d < fu → ∃ M', fX9_copy_144 fu k (nI a) (nI i) (nI m) (nI x) M = k M' ∧ (∀ c, c ≠ 29 → M' c = M c) ∧ (∀ z, ¬ (60 * a + i + x ≤ z ∧ z < 60 * a + i + m) → M' 29 z = M 29 z) ∧ ∀ y, x ≤ y → y < m → M' 29 (60 * a + i + y) = M 30 y := by
  intro d
  induction d with
  | zero =>
    intro x fu M hx hf
    obtain ⟨f, rfl⟩ : ∃ f, fu = f + 1 := ⟨fu - 1, by omega⟩
    rw [fX9_copy_144, if_pos (nI_le (by omega) (by omega))]
    exact ⟨M, rfl, fun _ _ => rfl, fun _ _ => rfl, fun y h1 h2 => by omega⟩
  | succ d ih =>
    intro x fu M hx hf
    obtain ⟨f, rfl⟩ : ∃ f, fu = f + 1 := ⟨fu - 1, by omega⟩
    rw [fX9_copy_144, if_neg (nI_ge (by omega) (by omega)), idx60, nI_add, gd_nI (show x < 60 by omega) (by decide), gd_nI (show 60 * a + i + x < 240 by omega) (by decide), nI_1, nI_clamp (by omega), nI_clamp (by omega)]
    obtain ⟨M', e, h1, h2, h3⟩ := ih (x + 1) f (u2 M 29 (60 * a + i + x) (M 30 x)) (by omega) (by omega)
    refine ⟨M', e, fun c hc => by rw [h1 c hc, u2_ne _ _ _ hc], fun y hy => ?_, fun y hy hy2 => ?_⟩
    · rw [h2 y (by omega)]
      exact upd_ne _ _ (by omega)
    · by_cases e : y = x
      · subst e
        rw [h2 _ (by omega)]
        exact upd_at _ _ _
      · rw [h3 y (by omega) hy2]; rfl
theorem u1_at (M : MS) (k : Nat) (f : Nat → Int32) : u1 M k f k = f := by
  show (bif Nat.beq k k then _ else _) = _
  rw [Nat.beq_refl]; rfl
theorem u1_ne (M : MS) {k j : Nat} (f : Nat → Int32) (h : j ≠ k) : u1 M k f j = M j := by
  have hb : Nat.beq j k = false := by
    cases hb : Nat.beq j k with
    | false => rfl
    | true => exact absurd (Nat.eq_of_beq_eq_true hb) h
  show (bif Nat.beq j k then _ else _) = _
  rw [hb]; rfl
theorem op_copy (n : Nat) (S M : MS) (a1 a2 a3 a4 a5 : Int32) (h : Inv n S M) : ∃ q qm, gC_copy n a1 a2 a3 a4 a5 S = some q ∧ gM_copy a1 a2 a3 a4 a5 M = some qm ∧ q.1 = qm.1 ∧ Inv n q.2 qm.2 := by
  have hI := h
  obtain ⟨h1, h2, h3, g, k1, k2, k3⟩ := h
  unfold gC_copy gM_copy fX8_copy fX9_copy
  rcases sheet_c a1 with ⟨k, hk, rfl, e1, e2⟩ | ⟨e1, e2⟩
  · rcases sheet_c a3 with ⟨o, ho, rfl, e3, e4⟩ | ⟨e3, e4⟩
    · have c1 : (nI k).toNatClampNeg = k := nI_clamp (by omega)
      have c2 : (nI o).toNatClampNeg = o := nI_clamp (by omega)
      have s0 : u2 S 0 0 0 (1 + k) = S (1 + k) := u2_ne _ _ _ (by omega)
      have s1 : u2 S 0 0 0 (1 + o) = S (1 + o) := u2_ne _ _ _ (by omega)
      have s2 : u2 S 0 0 0 (5 + k) = S (5 + k) := u2_ne _ _ _ (by omega)
      have s3 : u2 S 0 0 0 (5 + o) = S (5 + o) := u2_ne _ _ _ (by omega)
      rcases h3 k hk with ⟨q1, q2, q3⟩ | ⟨len, lane, q1, q2, q3, q4, q5, q6, q7⟩
      · simp only [e1, e2, e3, e4, om_some, ↓reduceIte, gd_nI hk (show 4 < 2 ^ 31 by decide), c1, s0, q1, q2, show (-1 : Int32) < 0 from by decide]
        exact ⟨_, _, rfl, rfl, rfl, hI.fault2 _ _⟩
      · rcases h3 o ho with ⟨r1, r2, r3⟩ | ⟨len2, lane2, r1, r2, r3, r4, r5, r6, r7⟩
        · simp only [e1, e2, e3, e4, om_some, ↓reduceIte, gd_nI hk (show 4 < 2 ^ 31 by decide), gd_nI ho (show 4 < 2 ^ 31 by decide), c1, c2, s0, s1, q3, q5, nI_nm1 (show lane < 2 ^ 31 by omega), nI_pos (show len < 2 ^ 31 by omega), r1, r2, show ¬ (0 : Int32) ≤ -1 from by decide]
          exact ⟨_, _, rfl, rfl, rfl, hI.fault2 _ _⟩
        · by_cases hla : lane = lane2
          · subst hla
            have b1 := beyond_spec (i := a2) (m := a5) q1
            have b2 := beyond_spec (i := a4) (m := a5) r1
            by_cases hm : a5 < 0
            · have hm' := (lt0_iff a5).mp hm
              rw [if_neg (by omega)] at b1
              simp only [e1, e2, e3, e4, om_some, ↓reduceIte, gd_nI hk (show 4 < 2 ^ 31 by decide), gd_nI ho (show 4 < 2 ^ 31 by decide), c1, c2, s0, s1, q3, q4, q5, nI_nm1 (show lane < 2 ^ 31 by omega), nI_pos (show len < 2 ^ 31 by omega), r3, r4, r5, nI_pos' (show len2 < 2 ^ 31 by omega), hm, b1, z10]
              exact ⟨_, _, rfl, rfl, rfl, hI.fault2 _ _⟩
            · have hm' : ¬ a5.toInt < 0 := fun q => hm ((lt0_iff a5).mpr q)
              have f1 := holds_spec (n := n) (j := k) (i := a2) (m := a5) (S := u2 S 0 0 0) (by rw [s0]; exact q6) q1 (by omega)
              have f2 := holds_spec (n := n) (j := o) (i := a4) (m := a5) (S := u2 S 0 0 0) (by rw [s1]; exact r6) r1 (by omega)
              by_cases v1 : 0 ≤ a2.toInt ∧ a2.toInt + a5.toInt ≤ len
              · rw [if_pos v1] at f1
                rw [if_pos (by omega)] at b1
                by_cases v2 : 0 ≤ a4.toInt ∧ a4.toInt + a5.toInt ≤ len2
                · rw [if_pos v2] at f2
                  rw [if_pos (by omega)] at b2
                  obtain ⟨i, hi, rfl⟩ := nI_of (x := a2) (by rw [lt0_iff]; omega)
                  obtain ⟨j, hj, rfl⟩ := nI_of (x := a4) (by rw [lt0_iff]; omega)
                  obtain ⟨m, hmm, rfl⟩ := nI_of (x := a5) hm
                  rw [nI_toInt hi, nI_toInt hmm] at v1
                  rw [nI_toInt hj, nI_toInt hmm] at v2
                  have gcx : ∀ (α : Type) (z : Option α), gc (nI i) (nI j) (nI m) z = z := by
                    intro α z
                    unfold gc
                    rw [nI_toInt hi, nI_toInt hj, nI_toInt hmm, if_pos (by omega)]
                  obtain ⟨M1, l1', l2', l3', l4'⟩ := copy107_l (a := k) (i := i) (m := m) (k := fun M17 => (fX9_copy_144 300 (fun M21 => (some ((fX9_refused (nI m) M21).1, (fX9_refused (nI m) M21).2))) (nI o) (nI j) (nI m) (0 : Int32) M17)) (by omega) (by omega) m 0 300 M (by omega) (by omega)
                  have l1' : fX9_copy_107 300 (fun M17 => (fX9_copy_144 300 (fun M21 => (some ((fX9_refused (nI m) M21).1, (fX9_refused (nI m) M21).2))) (nI o) (nI j) (nI m) (0 : Int32) M17)) (nI k) (nI i) (nI m) (0 : Int32) M = _ := l1'
                  obtain ⟨M2, w1, w2, w3, w4⟩ := copy144_l (a := o) (i := j) (m := m) (k := fun M21 => (some ((fX9_refused (nI m) M21).1, (fX9_refused (nI m) M21).2))) (by omega) (by omega) m 0 300 M1 (by omega) (by omega)
                  have w1 : fX9_copy_144 300 (fun M21 => (some ((fX9_refused (nI m) M21).1, (fX9_refused (nI m) M21).2))) (nI o) (nI j) (nI m) (0 : Int32) M1 = _ := w1
                  have ci : (nI i).toNatClampNeg = i := nI_clamp hi
                  have cj : (nI j).toNatClampNeg = j := nI_clamp hj
                  have cm : (nI m).toNatClampNeg = m := nI_clamp hmm
                  simp only [e1, e2, e3, e4, om_some, ↓reduceIte, gd_nI hk (show 4 < 2 ^ 31 by decide), gd_nI ho (show 4 < 2 ^ 31 by decide), c1, c2, s0, s1, s2, s3, q3, q4, q5, nI_nm1 (show lane < 2 ^ 31 by omega), nI_pos (show len < 2 ^ 31 by omega), r3, r4, r5, nI_pos' (show len2 < 2 ^ 31 by omega), hm, b1, b2, f1, f2, z10, gcx, ci, cj, cm, l1', w1]
                  refine ⟨_, _, rfl, rfl, rfl, ?_⟩
                  show Inv n (u1 (u2 S 0 0 0) (5 + o) (va_cpy (S (5 + k)) (S (5 + o)) i j m)) (u2 M2 0 0 0)
                  refine (hI.fault 0).sheet ho (fun c c1 c2 => u1_ne _ _ c1) (fun c c1 c2 c3 c30 => ?_) (fun y hy => ⟨?_, ?_⟩) (fun x hx => ?_) (Or.inr ⟨len2, lane, r1, q2, ?_, ?_, ?_, ?_, fun y hy => ?_⟩)
                  · by_cases c0 : c = 0
                    · subst c0
                      rw [u2_at, u2_at, w2 0 (by decide), l2' 0 (by decide)]
                    · rw [u2_ne _ _ _ c0, u2_ne _ _ _ c0, w2 c c3, l2' c c30]
                  · show M2 27 y = M 27 y
                    rw [w2 27 (by decide), l2' 27 (by decide)]
                  · show M2 28 y = M 28 y
                    rw [w2 28 (by decide), l2' 28 (by decide)]
                  · show M2 29 x = M 29 x
                    rw [w3 x (by omega), l2' 29 (by decide)]
                  · show M2 27 o = _
                    rw [w2 27 (by decide), l2' 27 (by decide)]; exact r3
                  · show M2 28 o = _
                    rw [w2 28 (by decide), l2' 28 (by decide)]; exact r4
                  · rw [u1_ne _ _ (by omega), s1]; exact r5
                  · rw [u1_ne _ _ (by omega), s1]; exact r6
                  · rw [u1_at]
                    show va_cpy (S (5 + k)) (S (5 + o)) i j m y = M2 29 (60 * o + y)
                    by_cases hy2 : j ≤ y ∧ y < j + m
                    · rw [pk_cpy_in hy2.1 hy2.2]
                      have := w4 (y - j) (Nat.zero_le _) (by omega)
                      rw [show 60 * o + j + (y - j) = 60 * o + y by omega] at this
                      rw [this, l4' (y - j) (Nat.zero_le _) (by omega), q7 _ (by omega)]
                      congr 1
                      omega
                    · rw [pk_cpy_out (by omega), w3 _ (by omega), l2' 29 (by decide)]
                      exact r7 y hy
                · rw [if_neg v2] at f2
                  rw [if_neg (fun q => v2 ⟨q.1, q.2.2⟩)] at b2
                  simp only [e1, e2, e3, e4, om_some, ↓reduceIte, gd_nI hk (show 4 < 2 ^ 31 by decide), gd_nI ho (show 4 < 2 ^ 31 by decide), c1, c2, s0, s1, q3, q4, q5, nI_nm1 (show lane < 2 ^ 31 by omega), nI_pos (show len < 2 ^ 31 by omega), r3, r4, r5, nI_pos' (show len2 < 2 ^ 31 by omega), hm, b1, b2, f1, f2, z10]
                  exact ⟨_, _, rfl, rfl, rfl, hI.fault2 _ _⟩
              · rw [if_neg v1] at f1
                rw [if_neg (fun q => v1 ⟨q.1, q.2.2⟩)] at b1
                simp only [e1, e2, e3, e4, om_some, ↓reduceIte, gd_nI hk (show 4 < 2 ^ 31 by decide), gd_nI ho (show 4 < 2 ^ 31 by decide), c1, c2, s0, s1, q3, q4, q5, nI_nm1 (show lane < 2 ^ 31 by omega), nI_pos (show len < 2 ^ 31 by omega), r3, r4, r5, nI_pos' (show len2 < 2 ^ 31 by omega), hm, b1, f1, z10]
                exact ⟨_, _, rfl, rfl, rfl, hI.fault2 _ _⟩
          · have hne : ¬ nI lane = nI lane2 := fun q => hla (nI_inj (by omega) (by omega) q)
            simp only [e1, e2, e3, e4, om_some, ↓reduceIte, gd_nI hk (show 4 < 2 ^ 31 by decide), gd_nI ho (show 4 < 2 ^ 31 by decide), c1, c2, s0, s1, q3, q4, q5, nI_nm1 (show lane < 2 ^ 31 by omega), nI_nm1 (show lane2 < 2 ^ 31 by omega), nI_pos (show len < 2 ^ 31 by omega), r3, r4, r5, nI_pos' (show len2 < 2 ^ 31 by omega), hne]
            exact ⟨_, _, rfl, rfl, rfl, hI.fault2 _ _⟩
    · simp only [e1, e2, e3, e4, z10, om_some, om_none, ↓reduceIte]
      exact ⟨_, _, rfl, rfl, rfl, hI.fault _⟩
  · rcases sheet_c a3 with ⟨o, ho, rfl, e3, e4⟩ | ⟨e3, e4⟩
    · simp only [e1, e2, e4, z10, om_some, om_none, ↓reduceIte]
      exact ⟨_, _, rfl, rfl, rfl, hI.fault _⟩
    · simp only [e1, e2, e4, z10, om_none, ↓reduceIte]
      exact ⟨_, _, rfl, rfl, rfl, hI.fault _⟩
