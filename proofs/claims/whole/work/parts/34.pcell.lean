/-! cells: put, cell, copy; what taking a row of cells comes to -/
theorem lt0_iff (x : Int32) : x < 0 ↔ x.toInt < 0 := by rw [Int32.lt_iff_toInt_lt, show (0 : Int32).toInt = 0 by decide]
theorem le0_iff (x : Int32) : 0 ≤ x ↔ 0 ≤ x.toInt := by rw [Int32.le_iff_toInt_le, show (0 : Int32).toInt = 0 by decide]
theorem sub_toInt {len : Nat} {i : Int32} (hl : len ≤ 60) (h0 : 0 ≤ i.toInt) (h1 : i.toInt ≤ len) : (nI len - i).toInt = len - i.toInt := by
  obtain ⟨j, hj, rfl⟩ := nI_of (x := i) (by rw [lt0_iff]; omega)
  rw [nI_toInt hj] at h0 h1 ⊢
  rw [pk_sub (by omega), nI_toInt (by omega)]
  omega
theorem holds_spec {n j len : Nat} {i m : Int32} {S : MS} (hS : S (1 + j) 1 = nI len) (hl : len ≤ 60) (hm : 0 ≤ m.toInt) : fX6_holds n j i m S = if 0 ≤ i.toInt ∧ i.toInt + m.toInt ≤ len then 1 else 0 := by
  unfold fX6_holds
  rw [hS]
  by_cases h0 : i < 0
  · have := (lt0_iff i).mp h0
    rw [if_pos h0, if_neg (by omega)]
  · have h0' : ¬ i.toInt < 0 := fun q => h0 ((lt0_iff i).mpr q)
    rw [if_neg h0]
    by_cases h1 : nI len < i
    · have := Int32.lt_iff_toInt_lt.mp h1
      rw [nI_toInt (by omega)] at this
      rw [if_pos h1, if_neg (by omega)]
    · have h1' : ¬ (len : Int) < i.toInt := fun q => h1 (Int32.lt_iff_toInt_lt.mpr (by rw [nI_toInt (by omega)]; exact q))
      rw [if_neg h1]
      have hs := sub_toInt (i := i) hl (by omega) (by omega)
      by_cases h2 : nI len - i < m
      · have := Int32.lt_iff_toInt_lt.mp h2
        rw [if_pos h2, if_neg (by omega)]
      · have h2' : ¬ (nI len - i).toInt < m.toInt := fun q => h2 (Int32.lt_iff_toInt_lt.mpr q)
        rw [if_neg h2, if_pos (by omega)]
theorem add64 (i m : Int32) : (i.toInt64 + m.toInt64).toInt = i.toInt + m.toInt := by
  have a1 := Int32.toInt_lt i
  have a2 := Int32.le_toInt i
  have b1 := Int32.toInt_lt m
  have b2 := Int32.le_toInt m
  rw [Int64.toInt_add, t64, t64, Int.bmod_def]
  split <;> omega
theorem beyond_spec {len : Nat} {i m : Int32} (hl : len ≤ 60) : fX9_isBeyond i m.toInt64 (nI len) = if 0 ≤ i.toInt ∧ 0 ≤ m.toInt ∧ i.toInt + m.toInt ≤ len then 0 else 1 := by
  unfold fX9_isBeyond
  have z : (0 : Int64).toInt = 0 := by decide
  by_cases h0 : i < 0
  · have := (lt0_iff i).mp h0
    rw [if_pos h0, if_neg (by omega)]
  · have h0' : ¬ i.toInt < 0 := fun q => h0 ((lt0_iff i).mpr q)
    rw [if_neg h0]
    by_cases h1 : m.toInt64 < 0
    · have := Int64.lt_iff_toInt_lt.mp h1
      rw [t64, z] at this
      rw [if_pos ((lg_cmp_lt _ _).mpr h1), if_neg (by omega)]
    · have h1' : ¬ m.toInt < 0 := fun q => h1 (Int64.lt_iff_toInt_lt.mpr (by rw [t64, z]; exact q))
      rw [if_neg (fun q => h1 ((lg_cmp_lt _ _).mp q))]
      by_cases h2 : i.toInt64 + m.toInt64 ≤ (nI len).toInt64
      · have := Int64.le_iff_toInt_le.mp h2
        rw [add64, t64, nI_toInt (by omega)] at this
        rw [if_pos ((lg_cmp_le _ _).mpr h2), if_pos (by omega)]
      · have h2' : ¬ i.toInt + m.toInt ≤ (len : Int) := fun q => h2 (Int64.le_iff_toInt_le.mpr (by rw [add64, t64, nI_toInt (by omega)]; exact q))
        rw [if_neg (fun q => h2 ((lg_cmp_le _ _).mp q)), if_neg (by omega)]
theorem nI_nm1 {k : Nat} (h : k < 2 ^ 31) : ¬ nI k = -1 := fun q => by
  have := congrArg Int32.toInt q
  rw [nI_toInt h, show (-1 : Int32).toInt = -1 by decide] at this
  omega
theorem fot_none {n j : Nat} {l i m : Int32} {S : MS} (h : S (1 + j) 0 = -1) : fX6_faultOfTaking n j l i m S = 1 := by
  unfold fX6_faultOfTaking
  rw [if_pos h]
theorem fot_some {n j len lane : Nat} {l i m : Int32} {S : MS} (h0 : S (1 + j) 0 = nI lane) (hla : lane < 3) (h1 : S (1 + j) 1 = nI len) (hl : len ≤ 60) : fX6_faultOfTaking n j l i m S = if nI lane = l then (if 0 ≤ m.toInt then (if 0 ≤ i.toInt ∧ i.toInt + m.toInt ≤ len then 0 else 3) else 4) else 2 := by
  unfold fX6_faultOfTaking
  rw [h0, if_neg (nI_nm1 (by omega))]
  by_cases e : nI lane = l
  · rw [if_pos e, if_pos e]
    by_cases e2 : 0 ≤ m
    · have e2' := (le0_iff m).mp e2
      rw [if_pos e2, if_pos e2', holds_spec h1 hl e2']
      by_cases e3 : 0 ≤ i.toInt ∧ i.toInt + m.toInt ≤ len
      · rw [if_pos e3, if_pos e3, if_neg (by decide)]
      · rw [if_neg e3, if_neg e3, if_pos rfl]
    · have e2' : ¬ 0 ≤ m.toInt := fun q => e2 ((le0_iff m).mpr q)
      rw [if_neg e2, if_neg e2']
  · rw [if_neg e, if_neg e]
theorem noCell_none {k : Nat} {i : Int32} {M : MS} (hk : k < 4) (h : M 27 k = -1) : fX9_noCell (nI k) i M = some 1 := by
  unfold fX9_noCell
  rw [gd_nI hk (by decide), nI_clamp (by omega), h, if_neg (by decide)]
theorem noCell_some {k len : Nat} {i : Int32} {M : MS} (hk : k < 4) (hl : len ≤ 60) (h : M 27 k = nI len) : fX9_noCell (nI k) i M = some (if 0 ≤ i.toInt ∧ i.toInt + 1 ≤ len then 0 else 3) := by
  unfold fX9_noCell
  rw [gd_nI hk (by decide), nI_clamp (by omega), h, if_pos (nI_pos' (by omega)), gd_nI hk (by decide), in_spec, l1 (by omega), t64, show (0 : Int64).toInt = 0 by decide]
  by_cases e : 0 ≤ i.toInt ∧ i.toInt + 1 ≤ len
  · rw [if_pos e, if_pos (show 0 ≤ i.toInt ∧ i.toInt ≤ (len : Int) - 1 by omega), if_neg (by decide)]
  · rw [if_neg e, if_neg (show ¬ (0 ≤ i.toInt ∧ i.toInt ≤ (len : Int) - 1) by omega), if_pos rfl]
theorem one_toInt : (1 : Int32).toInt = 1 := by decide
theorem op_put (n : Nat) (S M : MS) (a1 a2 a3 : Int32) (h : Inv n S M) : ∃ q qm, gC_put n a1 a2 a3 S = some q ∧ gM_put a1 a2 a3 M = some qm ∧ q.1 = qm.1 ∧ Inv n q.2 qm.2 := by
  have hI := h
  obtain ⟨h1, h2, h3, g, k1, k2, k3⟩ := h
  unfold gC_put gM_put fX8_put fX9_put
  rcases sheet_c a1 with ⟨k, hk, rfl, e1, e2⟩ | ⟨e1, e2⟩
  · have c1 : (nI k).toNatClampNeg = k := nI_clamp (by omega)
    have s0 : u2 S 0 0 0 (1 + k) = S (1 + k) := u2_ne _ _ _ (by omega)
    rcases h3 k hk with ⟨q1, q2, q3⟩ | ⟨len, lane, q1, q2, q3, q4, q5, q6, q7⟩
    · have f1 : fX6_faultOfTaking n k (-1) a2 1 (u2 S 0 0 0) = 1 := fot_none (by rw [s0]; exact q2)
      simp only [e1, e2, om_some, ↓reduceIte, s0, q2, f1, z10, noCell_none hk q1, Option.bind_some, show ¬ (1 : Int32) ≤ 0 from by decide]
      exact ⟨_, _, rfl, rfl, rfl, hI.fault2 _ _⟩
    · have f1 := fot_some (n := n) (l := nI lane) (i := a2) (m := 1) (S := u2 S 0 0 0) (by rw [s0]; exact q5) q2 (by rw [s0]; exact q6) q1
      rw [if_pos rfl, one_toInt, if_pos (by decide)] at f1
      have f2 := noCell_some (i := a2) hk q1 q3
      by_cases hv : 0 ≤ a2.toInt ∧ a2.toInt + 1 ≤ len
      · rw [if_pos hv] at f1 f2
        obtain ⟨i, hi, rfl⟩ := nI_of (x := a2) (by rw [lt0_iff]; omega)
        rw [nI_toInt hi] at hv
        have hil : i < len := by omega
        have w1 : fX6_write n k (nI i) a3 (u2 S 0 0 0) = some (u2 (u2 S 0 0 0) (5 + k) i (fX6_cut n k a3 (u2 S 0 0 0))) := by
          unfold fX6_write
          rw [s0, q6, below_nI (by omega) hil, if_neg (by decide), if_neg (show ¬ (60 : Int32) ≤ nI i from nI_ge (b := 60) (by omega) (by decide)), gd_nI (by omega) (by decide), nI_clamp hi]
        have fin : ∀ x : Int32, Inv n (u2 (u2 S 0 0 0) (5 + k) i x) (u2 (u2 M 29 (60 * k + i) x) 0 0 0) := by
          intro x
          refine (hI.fault 0).sheet hk (fun c c1 c2 => u2_ne _ _ _ c1) (fun c c1 c2 c3 _ => ?_) (fun j hj => ⟨rfl, rfl⟩) (fun y hy => ?_) (Or.inr ⟨len, lane, q1, q2, q3, q4, ?_, ?_, fun y hy => ?_⟩)
          · by_cases c0 : c = 0
            · subst c0; rfl
            · rw [u2_ne _ _ _ c0, u2_ne _ _ _ c3, u2_ne _ _ _ c0]
          · show upd (M 29) (60 * k + i) x y = M 29 y
            exact upd_ne _ _ (by omega)
          · rw [u2_ne _ _ _ (by omega), s0]; exact q5
          · rw [u2_ne _ _ _ (by omega), s0]; exact q6
          · rw [u2_at]
            show upd _ i x y = upd (M 29) (60 * k + i) x (60 * k + y)
            by_cases e : y = i
            · subst e; rw [upd_at, upd_at]
            · rw [upd_ne _ _ e, upd_ne _ _ (by omega), u2_ne _ _ _ (by omega)]; exact q7 y hy
        have cc : fX6_cut n k a3 (u2 S 0 0 0) = (if nI lane = 0 then a3.toInt8.toInt32 else (if nI lane = 1 then a3.toInt16.toInt32 else a3)) := by
          unfold fX6_cut
          rw [s0, q5]
        have ci : (nI (60 * k + i)).toNatClampNeg = 60 * k + i := nI_clamp (by omega)
        simp only [e1, e2, om_some, ↓reduceIte, s0, q5, f1, f2, Option.bind_some, show (0 : Int32) ≤ 0 from by decide, gd_nI hk (show 4 < 2 ^ 31 by decide), c1, q4, w1, cc, idx60, gd_nI (show 60 * k + i < 240 by omega) (show 240 < 2 ^ 31 by decide), ci]
        rcases (show lane = 0 ∨ lane = 1 ∨ lane = 2 by omega) with rfl | rfl | rfl
        · exact ⟨_, _, rfl, rfl, rfl, fin _⟩
        · exact ⟨_, _, rfl, rfl, rfl, fin _⟩
        · exact ⟨_, _, rfl, rfl, rfl, fin _⟩
      · rw [if_neg hv] at f1 f2
        simp only [e1, e2, om_some, ↓reduceIte, s0, q5, f1, f2, Option.bind_some, show ¬ (3 : Int32) = 0 from by decide, show ¬ (3 : Int32) ≤ 0 from by decide]
        exact ⟨_, _, rfl, rfl, rfl, hI.fault2 _ _⟩
  · simp only [e1, e2, z10, om_none, ↓reduceIte]
    exact ⟨_, _, rfl, rfl, rfl, hI.fault _⟩
theorem at_spec {n k i len : Nat} {S : MS} (h6 : S (1 + k) 1 = nI len) (hl : len ≤ 60) (hi : i < len) : fX6_at n k (nI i) S = some (S (5 + k) i) := by
  unfold fX6_at
  rw [h6, below_nI (by omega) hi, if_neg (by decide), if_neg (show ¬ (60 : Int32) ≤ nI i from nI_ge (b := 60) (by omega) (by decide)), gd_nI (by omega) (by decide), nI_clamp (by omega)]
theorem Inv.fault3 {n : Nat} {S M : MS} (h : Inv n S M) (y x : Int32) : Inv n (u2 (u2 S 0 0 y) 0 0 x) (u2 (u2 M 0 0 y) 0 0 x) := by
  rw [u2_u2, u2_u2]; exact h.fault x
theorem op_cell (n : Nat) (S M : MS) (a1 a2 a3 : Int32) (h : Inv n S M) : ∃ q qm, gC_cell n a1 a2 a3 S = some q ∧ gM_cell a1 a2 a3 M = some qm ∧ q.1 = qm.1 ∧ Inv n q.2 qm.2 := by
  have hI := h
  obtain ⟨h1, h2, h3, g, k1, k2, k3⟩ := h
  unfold gC_cell gM_cell fX8_cell fX9_cell fX8_isLane
  rcases sheet_c a1 with ⟨k, hk, rfl, e1, e2⟩ | ⟨e1, e2⟩
  · have c1 : (nI k).toNatClampNeg = k := nI_clamp (by omega)
    have s0 : u2 S 0 0 0 (1 + k) = S (1 + k) := u2_ne _ _ _ (by omega)
    have m27 : u2 M 0 0 0 27 k = M 27 k := rfl
    have m28 : u2 M 0 0 0 28 k = M 28 k := rfl
    rcases lane_c a3 with ⟨t, ht, rfl, e3, e4⟩ | ⟨e3, e4⟩
    · rcases h3 k hk with ⟨q1, q2, q3⟩ | ⟨len, lane, q1, q2, q3, q4, q5, q6, q7⟩
      · have f1 : fX6_faultOfTaking n k (nI t) a2 1 (u2 S 0 0 0) = 1 := fot_none (by rw [s0]; exact q2)
        have f2 := noCell_none (i := a2) (M := u2 M 0 0 0) hk q1
        simp only [e1, e2, e3, e4, z10, om_some, ↓reduceIte, f1, f2, gd_nI hk (show 4 < 2 ^ 31 by decide), c1, m27, q1, show (-1 : Int32) < 0 from by decide, Option.bind_some, show ¬ (1 : Int32) ≤ 0 from by decide]
        exact ⟨_, _, rfl, rfl, rfl, hI.fault3 _ _⟩
      · have f1 := fot_some (n := n) (l := nI t) (i := a2) (m := 1) (S := u2 S 0 0 0) (by rw [s0]; exact q5) q2 (by rw [s0]; exact q6) q1
        rw [one_toInt, if_pos (show (0 : Int) ≤ 1 by decide)] at f1
        have f2 := noCell_some (i := a2) (M := u2 M 0 0 0) hk q1 q3
        by_cases hla : lane = t
        · subst hla
          rw [if_pos rfl] at f1
          by_cases hv : 0 ≤ a2.toInt ∧ a2.toInt + 1 ≤ len
          · rw [if_pos hv] at f1 f2
            obtain ⟨i, hi, rfl⟩ := nI_of (x := a2) (by rw [lt0_iff]; omega)
            rw [nI_toInt hi] at hv
            have hil : i < len := by omega
            have ci : (nI (60 * k + i)).toNatClampNeg = 60 * k + i := nI_clamp (by omega)
            have m29 : u2 M 0 0 0 29 (60 * k + i) = M 29 (60 * k + i) := rfl
            have w1 := at_spec (n := n) (S := u2 S 0 0 0) (k := k) (by rw [s0]; exact q6) q1 hil
            have s5 : u2 S 0 0 0 (5 + k) i = S (5 + k) i := by rw [u2_ne _ _ _ (by omega)]
            simp only [e1, e2, e3, e4, z10, om_some, ↓reduceIte, f1, f2, gd_nI hk (show 4 < 2 ^ 31 by decide), c1, m27, m28, q3, q4, nI_pos (show len < 2 ^ 31 by omega), Option.bind_some, show (0 : Int32) ≤ 0 from by decide, w1, idx60, gd_nI (show 60 * k + i < 240 by omega) (show 240 < 2 ^ 31 by decide), ci, m29, s5, q7 i hil]
            exact ⟨_, _, rfl, rfl, rfl, hI.fault _⟩
          · rw [if_neg hv] at f1 f2
            simp only [e1, e2, e3, e4, z10, om_some, ↓reduceIte, f1, f2, gd_nI hk (show 4 < 2 ^ 31 by decide), c1, m27, m28, q3, q4, nI_pos (show len < 2 ^ 31 by omega), Option.bind_some, show ¬ (3 : Int32) = 0 from by decide, show ¬ (3 : Int32) ≤ 0 from by decide]
            exact ⟨_, _, rfl, rfl, rfl, hI.fault3 _ _⟩
        · have hne : ¬ nI lane = nI t := fun q => hla (nI_inj (by omega) (by omega) q)
          rw [if_neg hne] at f1
          simp only [e1, e2, e3, e4, z10, om_some, ↓reduceIte, f1, gd_nI hk (show 4 < 2 ^ 31 by decide), c1, m27, m28, q3, q4, nI_pos (show len < 2 ^ 31 by omega), hne, show ¬ (2 : Int32) = 0 from by decide]
          exact ⟨_, _, rfl, rfl, rfl, hI.fault3 _ _⟩
    · simp only [e1, e2, e3, e4, z10, om_some, ↓reduceIte]
      exact ⟨_, _, rfl, rfl, rfl, hI.fault _⟩
  · simp only [e1, e2, z10, om_none, ↓reduceIte]
    exact ⟨_, _, rfl, rfl, rfl, hI.fault _⟩
/-- what taking a row of cells comes to, on both sides -/
theorem taking_c {n : Nat} {S M : MS} (h3 : shI S M) {k : Nat} (hk : k < 4) (t : Nat) (ht : t < 3) (i m : Int32) :
    (∃ len ii mm : Nat, len ≤ 60 ∧ i = nI ii ∧ m = nI mm ∧ ii + mm ≤ len ∧ S (1 + k) 1 = nI len ∧ (∀ x, x < len → S (5 + k) x = M 29 (60 * k + x)) ∧ fX6_faultOfTaking n k (nI t) i m S = 0 ∧ fX9_cellsBarred (nI k) (nI t) i m.toInt64 M = some (0, M)) ∨
    (∃ F : Int32, F ≠ 0 ∧ ¬ 0 ≤ -10 - F ∧ fX6_faultOfTaking n k (nI t) i m S = F ∧ fX9_cellsBarred (nI k) (nI t) i m.toInt64 M = some (-10 - F, u2 M 0 0 F)) := by
  have c1 : (nI k).toNatClampNeg = k := nI_clamp (by omega)
  rcases h3 k hk with ⟨q1, q2, q3⟩ | ⟨len, lane, q1, q2, q3, q4, q5, q6, q7⟩
  · refine Or.inr ⟨1, by decide, by decide, fot_none q2, ?_⟩
    unfold fX9_cellsBarred fX9_failed
    simp only [gd_nI hk (show 4 < 2 ^ 31 by decide), c1, q1, show (-1 : Int32) < 0 from by decide, show ¬ (0 : Int32) ≤ -1 from by decide, ↓reduceIte]
  · have f1 := fot_some (n := n) (l := nI t) (i := i) (m := m) (S := S) q5 q2 q6 q1
    by_cases hla : lane = t
    · subst hla
      rw [if_pos rfl] at f1
      by_cases hm : 0 ≤ m.toInt
      · rw [if_pos hm] at f1
        have hm1 : 0 ≤ lg_cmp m.toInt64 0 := (lg_cmp_ge _ _).mpr (Int64.le_iff_toInt_le.mpr (by rw [t64, show (0 : Int64).toInt = 0 by decide]; exact hm))
        have hb := beyond_spec (i := i) (m := m) q1
        by_cases hv : 0 ≤ i.toInt ∧ i.toInt + m.toInt ≤ len
        · rw [if_pos hv] at f1
          rw [if_pos ⟨hv.1, hm, hv.2⟩] at hb
          obtain ⟨ii, hi, rfl⟩ := nI_of (x := i) (by rw [lt0_iff]; omega)
          obtain ⟨mm, hmm, rfl⟩ := nI_of (x := m) (by rw [lt0_iff]; omega)
          rw [nI_toInt hi, nI_toInt hmm] at hv
          refine Or.inl ⟨len, ii, mm, q1, rfl, rfl, by omega, q6, q7, f1, ?_⟩
          unfold fX9_cellsBarred
          simp only [gd_nI hk (show 4 < 2 ^ 31 by decide), c1, q3, q4, nI_pos (show len < 2 ^ 31 by omega), nI_pos' (show len < 2 ^ 31 by omega), ↓reduceIte, hm1, hb]
        · rw [if_neg hv] at f1
          rw [if_neg (fun q => hv ⟨q.1, q.2.2⟩)] at hb
          refine Or.inr ⟨3, by decide, by decide, f1, ?_⟩
          unfold fX9_cellsBarred fX9_failed
          simp only [gd_nI hk (show 4 < 2 ^ 31 by decide), c1, q3, q4, nI_pos (show len < 2 ^ 31 by omega), nI_pos' (show len < 2 ^ 31 by omega), ↓reduceIte, hm1, hb, z10]
      · rw [if_neg hm] at f1
        have hm1 : ¬ 0 ≤ lg_cmp m.toInt64 0 := fun q => by
          have := Int64.le_iff_toInt_le.mp ((lg_cmp_ge _ _).mp q)
          rw [t64, show (0 : Int64).toInt = 0 by decide] at this
          exact hm this
        refine Or.inr ⟨4, by decide, by decide, f1, ?_⟩
        unfold fX9_cellsBarred fX9_failed
        simp only [gd_nI hk (show 4 < 2 ^ 31 by decide), c1, q3, q4, nI_pos (show len < 2 ^ 31 by omega), nI_pos' (show len < 2 ^ 31 by omega), ↓reduceIte, hm1]
    · have hne : ¬ nI lane = nI t := fun q => hla (nI_inj (by omega) (by omega) q)
      rw [if_neg hne] at f1
      refine Or.inr ⟨2, by decide, by decide, f1, ?_⟩
      unfold fX9_cellsBarred fX9_failed
      simp only [gd_nI hk (show 4 < 2 ^ 31 by decide), c1, q3, q4, nI_pos (show len < 2 ^ 31 by omega), hne, ↓reduceIte]
