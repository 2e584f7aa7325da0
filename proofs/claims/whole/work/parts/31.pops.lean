/-! the calls without a sale -/
def hu (h : Nat → Nat → Nat) (k i v : Nat) : Nat → Nat → Nat := fun k' j => bif Nat.beq k' k then (bif Nat.beq j i then v else h k' j) else h k' j
theorem hu_at (h : Nat → Nat → Nat) (k i v : Nat) : hu h k i v k i = v := by
  show (bif Nat.beq k k then (bif Nat.beq i i then v else h k i) else h k i) = v
  rw [Nat.beq_refl, Nat.beq_refl]; rfl
theorem hu_ne (h : Nat → Nat → Nat) {k i v j : Nat} (hj : j ≠ i) : hu h k i v k j = h k j := by
  have hb : Nat.beq j i = false := by
    cases hb : Nat.beq j i with
    | false => rfl
    | true => exact absurd (Nat.eq_of_beq_eq_true hb) hj
  show (bif Nat.beq k k then (bif Nat.beq j i then v else h k j) else h k j) = h k j
  rw [Nat.beq_refl, hb]; rfl
theorem upd_at (f : Nat → Int32) (i : Nat) (x : Int32) : upd f i x i = x := if_pos rfl
theorem upd_ne (f : Nat → Int32) {i j : Nat} (x : Int32) (h : j ≠ i) : upd f i x j = f j := if_neg h
theorem there_c {n : Nat} {h : Nat → Nat → Nat} {S M : MS} (k1 : hOK n h) (k2 : rM n h M) : (n = 0 ∧ M 1 0 = 0 ∧ fX5_isThere n S = 0) ∨ (2 ≤ n ∧ ¬ M 1 0 = 0 ∧ fX5_isThere n S = 1) := by
  rcases k1 with k | k
  · refine Or.inl ⟨k.1, ?_, ?_⟩
    · rw [k2.1.1, k.2.1]; rfl
    · rw [k.1]; rfl
  · refine Or.inr ⟨k.1.1, ?_, ?_⟩
    · rw [k2.1.1]
      exact nI_ne0 (by have := k.2.1.1; omega) (by have := k.2.1.2.1; omega)
    · unfold fX5_isThere
      rw [if_neg (nI_nle (by have := k.1.1; omega) (by have := k.1.2.1; omega))]
theorem z10 : ¬ (1 : Int32) = 0 := by decide
theorem om_none {α : Type} (a : α) (f : Nat → α) : om none a f = a := rfl
theorem om_some {α : Type} (a : α) (f : Nat → α) (j : Nat) : om (some j) a f = f j := rfl
theorem shI.keep {S M S' M' : MS} (h : shI S M) (hS : ∀ k, 1 ≤ k → k ≤ 8 → S' k = S k) (h1 : M' 27 = M 27) (h2 : M' 28 = M 28) (h3 : M' 29 = M 29) : shI S' M' := by
  intro k hk
  rw [hS (1 + k) (by omega) (by omega), hS (5 + k) (by omega) (by omega), h1, h2, h3]
  exact h k hk
theorem op_trace (n : Nat) (S M : MS) (h : Inv n S M) : ∃ q qm, gC_trace n S = some q ∧ gM_trace M = some qm ∧ q.1 = qm.1 ∧ Inv n q.2 qm.2 := ⟨_, _, rfl, rfl, h.2.1, h⟩
theorem op_fault (n : Nat) (S M : MS) (h : Inv n S M) : ∃ q qm, gC_fault n S = some q ∧ gM_fault M = some qm ∧ q.1 = qm.1 ∧ Inv n q.2 qm.2 := ⟨_, _, rfl, rfl, h.1, h⟩
theorem op_many (n : Nat) (S M : MS) (a : Int32) (h : Inv n S M) : ∃ q qm, gC_many n a S = some q ∧ gM_many a M = some qm ∧ q.1 = qm.1 ∧ Inv n q.2 qm.2 := by
  refine ⟨_, _, rfl, rfl, ?_, h⟩
  obtain ⟨_, _, _, g, k1, k2, k3⟩ := h
  show fX8_many n a S = fX9_many a M
  unfold fX8_many fX9_many
  rw [k2.1.2.2.1, k2.1.1, k2.1.2.1, pk_mul, k3.1.1, k3.1.2.2.1, k2.1.2.2.2.1, k3.1.2.2.2, k2.1.2.2.2.2]
theorem op_law (n : Nat) (S M : MS) (a : Int32) (h : Inv n S M) : ∃ q qm, gC_law n a S = some q ∧ gM_law a M = some qm ∧ q.1 = qm.1 ∧ Inv n q.2 qm.2 := by
  refine ⟨_, _, rfl, rfl, ?_⟩
  have hI := h
  obtain ⟨h1, h2, h3, g, k1, k2, k3⟩ := h
  unfold fX8_law fX9_law
  rcases lane_c a with ⟨k, hk, rfl, e1, e2⟩ | ⟨e1, e2⟩
  · rcases there_c (S := S) k1 k2 with ⟨_, t1, t2⟩ | ⟨t0, t1, t2⟩
    · simp only [e1, e2, t1, t2, z10, ↓reduceIte]
      exact ⟨trivial, hI⟩
    · simp only [e1, e2, t1, t2, z10, ↓reduceIte]
      refine ⟨k3.1.2.2.1.trans k2.1.2.2.2.1.symm, h1, h2, h3.keep (fun j _ hj => u2_ne _ _ _ (by omega)) rfl rfl rfl, hu g 0 2 k, ?_, ?_, ?_⟩
      · rcases k1 with c | c
        · omega
        · exact Or.inr ⟨c.1, ⟨c.2.1.1, c.2.1.2.1, c.2.1.2.2.1, c.2.1.2.2.2.1, hk, c.2.1.2.2.2.2.2⟩, c.2.2⟩
      · exact ⟨⟨k2.1.1, k2.1.2.1, k2.1.2.2.1, rfl, k2.1.2.2.2.2⟩, k2.2⟩
      · exact ⟨⟨k3.1.1, k3.1.2.1, rfl, k3.1.2.2.2⟩, k3.2⟩
  · simp only [e1, e2, ↓reduceIte]
    exact ⟨trivial, hI⟩
theorem op_back (n : Nat) (S M : MS) (a : Int32) (h : Inv n S M) : ∃ q qm, gC_back n a S = some q ∧ gM_back a M = some qm ∧ q.1 = qm.1 ∧ Inv n q.2 qm.2 := by
  refine ⟨_, _, rfl, rfl, ?_⟩
  have hI := h
  obtain ⟨h1, h2, h3, g, k1, k2, k3⟩ := h
  unfold fX8_back fX9_back fX2_keepOnly
  have hc : g 0 3 ≤ 6 := by
    rcases k1 with c | c
    · omega
    · exact c.2.1.2.2.2.2.2
  have hz : (0 : Int32).toInt = 0 := by decide
  rw [k3.1.2.2.2, k2.1.2.2.2.2]
  have hin : ((nI (g 0 3)).toInt64).toInt = ((g 0 3 + 1 : Nat) : Int) - 1 := by rw [t64, nI_toInt (by omega)]; omega
  rcases rng_c a (N := g 0 3 + 1) (by omega) with ⟨k, hk, rfl⟩ | hno
  · have p1 : ¬ nI k < 0 := nI_pos (by omega)
    have p2 : nI k ≤ nI (g 0 3) := nI_le (by omega) (by omega)
    have ps : nI (g 0 3) - nI k = nI (g 0 3 - k) := pk_sub (by omega)
    simp only [in_nI hin (by omega) hk, p1, p2, ps, z10, ↓reduceIte]
    refine ⟨rfl, h1, h2, h3.keep (fun j _ hj => u2_ne _ _ _ (by omega)) rfl rfl rfl, hu g 0 3 (g 0 3 - k), ?_, ?_, ?_⟩
    · rcases k1 with c | c
      · refine Or.inl ⟨c.1, c.2.1, c.2.2.1, c.2.2.2.1, ?_⟩
        show g 0 3 - k = 0
        omega
      · refine Or.inr ⟨c.1, ⟨c.2.1.1, c.2.1.2.1, c.2.1.2.2.1, c.2.1.2.2.2.1, c.2.1.2.2.2.2.1, ?_⟩, c.2.2.1, c.2.2.2.1, c.2.2.2.2.1, fun r hr => ?_⟩
        · show g 0 3 - k ≤ 6
          omega
        · have hr' : r < g 0 3 - k := hr
          exact c.2.2.2.2.2 r (by omega)
    · refine ⟨⟨k2.1.1, k2.1.2.1, k2.1.2.2.1, k2.1.2.2.2.1, rfl⟩, k2.2.1, k2.2.2.1, fun r hr => ?_⟩
      have hr' : r < g 0 3 - k := hr
      exact k2.2.2.2 r (by omega)
    · refine ⟨⟨k3.1.1, k3.1.2.1, k3.1.2.2.1, rfl⟩, k3.2.1, k3.2.2.1, fun r hr => ?_, k3.2.2.2.2⟩
      have hr' : r < g 0 3 - k := hr
      exact k3.2.2.2.1 r (by omega)
  · by_cases ha : a < 0
    · simp only [in_no hin hno, ha, ↓reduceIte]; exact ⟨trivial, hI⟩
    · have a0 : ¬ a.toInt < 0 := fun q => ha (Int32.lt_iff_toInt_lt.mpr (by omega))
      have a1 : ¬ a ≤ nI (g 0 3) := fun q => by have := Int32.le_iff_toInt_le.mp q; rw [nI_toInt (by omega)] at this; omega
      simp only [in_no hin hno, ha, a1, ↓reduceIte]
      exact ⟨trivial, hI⟩
theorem op_worth (n : Nat) (S M : MS) (a1 a2 a3 : Int32) (h : Inv n S M) : ∃ q qm, gC_worth n a1 a2 a3 S = some q ∧ gM_worth a1 a2 a3 M = some qm ∧ q.1 = qm.1 ∧ Inv n q.2 qm.2 := by
  have hI := h
  obtain ⟨h1, h2, h3, g, k1, k2, k3⟩ := h
  have hn := k1.le6
  unfold gC_worth gM_worth fX8_worth fX9_worth
  rcases buy_c hn a1 k2.1.2.2.1 with ⟨b, hb, rfl, e1, e2⟩ | ⟨e1, e2⟩
  · rcases lot_c a2 with ⟨lo, hlo, rfl, e3, e4⟩ | ⟨e3, e4⟩
    · have hidx : (4 : Int32) * nI b + nI lo = nI (4 * b + lo) := by rw [show (4 : Int32) = nI 4 from rfl, pk_mul, nI_add]
      rcases v99_c a3 with ⟨v, hv, rfl, e5, e6, e7⟩ | ⟨e5, e6⟩
      · have c1 : (nI lo).toNatClampNeg = lo := nI_clamp (by omega)
        have c2 : (nI (4 * b + lo)).toNatClampNeg = 4 * b + lo := nI_clamp (by omega)
        simp only [e1, e2, e3, e4, e5, e6, e7, z10, om_some, ↓reduceIte, hidx, gd_nI hlo (show 4 < 2 ^ 31 by decide), gd_nI (show 4 * b + lo < 24 by omega) (show 24 < 2 ^ 31 by decide), c1, c2]
        refine ⟨_, _, rfl, rfl, ?_, h1, h2, h3.keep (fun j _ hj => u2_ne _ _ _ (by omega)) rfl rfl rfl, hu g 4 (4 * b + lo) v, ?_, ?_, ?_⟩
        · exact (k3.2.2.1 b lo hb hlo).trans (k2.2.2.1 b lo hb hlo).symm
        · rcases k1 with c | c
          · omega
          · refine Or.inr ⟨c.1, c.2.1, c.2.2.1, c.2.2.2.1, fun b' l' hb' hl' => ?_, c.2.2.2.2.2⟩
            by_cases e : 4 * b' + l' = 4 * b + lo
            · rw [e, hu_at]; exact hv
            · rw [hu_ne _ e]; exact c.2.2.2.2.1 b' l' hb' hl'
        · refine ⟨k2.1, k2.2.1, fun b' l' hb' hl' => ?_, k2.2.2.2⟩
          show upd (M 7) (4 * b + lo) (nI v) (4 * b' + l') = _
          by_cases e : 4 * b' + l' = 4 * b + lo
          · rw [e, hu_at, upd_at]
          · rw [hu_ne _ e, upd_ne _ _ e]; exact k2.2.2.1 b' l' hb' hl'
        · refine ⟨k3.1, k3.2.1, fun b' l' hb' hl' => ?_, k3.2.2.2⟩
          show upd (S 23) (6 * lo + b) (nI v) (6 * l' + b') = _
          by_cases e : 4 * b' + l' = 4 * b + lo
          · rw [e, hu_at, show 6 * l' + b' = 6 * lo + b by omega, upd_at]
          · rw [hu_ne _ e, upd_ne _ _ (by omega)]; exact k3.2.2.1 b' l' hb' hl'
      · by_cases e7 : a3 < 0
        · simp only [e1, e2, e3, e4, e5, e7, z10, om_some, ↓reduceIte]; exact ⟨_, _, rfl, rfl, rfl, hI⟩
        · have e8 : ¬ a3 ≤ 99 := e6.resolve_left e7
          simp only [e1, e2, e3, e4, e5, e7, e8, z10, om_some, ↓reduceIte]; exact ⟨_, _, rfl, rfl, rfl, hI⟩
    · simp only [e1, e2, e3, e4, z10, om_some, ↓reduceIte]
      exact ⟨_, _, rfl, rfl, rfl, hI⟩
  · simp only [e1, e2, z10, om_none, ↓reduceIte]
    exact ⟨_, _, rfl, rfl, rfl, hI⟩
theorem op_reading (n : Nat) (S M : MS) (a1 a2 : Int32) (h : Inv n S M) : ∃ q qm, gC_reading n a1 a2 S = some q ∧ gM_reading a1 a2 M = some qm ∧ q.1 = qm.1 ∧ Inv n q.2 qm.2 := by
  have hI := h
  obtain ⟨h1, h2, h3, g, k1, k2, k3⟩ := h
  have hn := k1.le6
  have hc : g 0 3 ≤ 6 := by
    rcases k1 with c | c
    · omega
    · exact c.2.1.2.2.2.2.2
  unfold gC_reading gM_reading fX8_reading fX9_reading
  rcases lot_c a1 with ⟨lo, hlo, rfl, e3, e4⟩ | ⟨e3, e4⟩
  · rcases v99_c a2 with ⟨v, hv, rfl, e5, e6, e7⟩ | ⟨e5, e6⟩
    · rcases there_c (S := S) k1 k2 with ⟨_, t1, t2⟩ | ⟨t0, t1, t2⟩
      · simp only [e3, e4, e5, e6, e7, t1, t2, z10, ↓reduceIte]
        exact ⟨_, _, rfl, rfl, rfl, hI⟩
      · rcases Nat.lt_or_ge (g 0 3) 6 with hr | hr
        · have p1 : nI (g 0 3) < 6 := nI_lt (b := 6) hr (by decide)
          have p2 : ¬ (6 : Int32) ≤ nI (g 0 3) := nI_ge (b := 6) hr (by decide)
          have p3 : ¬ nI (g 0 3) = 6 := fun q => by have := (nI_eq (b := 6) (by omega) (by decide)).mp q; omega
          have c1 : (nI (g 0 3)).toNatClampNeg = g 0 3 := nI_clamp (by omega)
          have w1 : ∀ x : Int32, u2 S 18 (g 0 3) x 17 0 = nI (g 0 3) := fun x => k3.1.2.2.2
          have w2 : ∀ x : Int32, u2 M 25 (g 0 3) x 24 0 = nI (g 0 3) := fun x => k2.1.2.2.2.2
          simp only [e3, e4, e5, e6, e7, t1, t2, z10, ↓reduceIte, fX2_write, k3.1.2.2.2, k2.1.2.2.2.2, p1, p2, p3, c1, w1, w2, gd_nI hr (show 6 < 2 ^ 31 by decide), Option.bind_some]
          have f1 : u2 (u2 S 18 (g 0 3) (nI lo)) 19 (g 0 3) (nI v) 17 0 = nI (g 0 3) := k3.1.2.2.2
          have f2 : u2 (u2 M 25 (g 0 3) (nI lo)) 26 (g 0 3) (nI v) 24 0 = nI (g 0 3) := k2.1.2.2.2.2
          rw [f1, f2, nI_1]
          refine ⟨_, _, rfl, rfl, rfl, h1, h2, h3.keep (fun j _ hj => ?_) rfl rfl rfl, hu (hu (hu g 5 (g 0 3) lo) 6 (g 0 3) v) 0 3 (g 0 3 + 1), ?_, ?_, ?_⟩
          · show u2 (u2 (u2 S 18 (g 0 3) (nI lo)) 19 (g 0 3) (nI v)) 17 0 (nI (g 0 3 + 1)) j = S j
            rw [u2_ne _ _ _ (by omega), u2_ne _ _ _ (by omega), u2_ne _ _ _ (by omega)]
          · rcases k1 with c | c
            · omega
            · refine Or.inr ⟨c.1, ⟨c.2.1.1, c.2.1.2.1, c.2.1.2.2.1, c.2.1.2.2.2.1, c.2.1.2.2.2.2.1, hr⟩, c.2.2.1, c.2.2.2.1, c.2.2.2.2.1, fun r hr2 => ?_⟩
              have hr2 : r < g 0 3 + 1 := hr2
              show hu g 5 (g 0 3) lo 5 r < 4 ∧ hu (hu g 5 (g 0 3) lo) 6 (g 0 3) v 6 r ≤ 99
              by_cases e : r = g 0 3
              · subst e; rw [hu_at, hu_at]; exact ⟨hlo, hv⟩
              · rw [hu_ne _ e, hu_ne _ e]; exact c.2.2.2.2.2 r (by omega)
          · refine ⟨⟨k2.1.1, k2.1.2.1, k2.1.2.2.1, k2.1.2.2.2.1, rfl⟩, k2.2.1, k2.2.2.1, fun r hr2 => ?_⟩
            have hr2 : r < g 0 3 + 1 := hr2
            show upd (M 25) (g 0 3) (nI lo) r = nI (hu g 5 (g 0 3) lo 5 r) ∧ upd (M 26) (g 0 3) (nI v) r = nI (hu (hu g 5 (g 0 3) lo) 6 (g 0 3) v 6 r)
            by_cases e : r = g 0 3
            · subst e; rw [hu_at, hu_at, upd_at, upd_at]; exact ⟨rfl, rfl⟩
            · rw [hu_ne _ e, hu_ne _ e, upd_ne _ _ e, upd_ne _ _ e]; exact k2.2.2.2 r (by omega)
          · refine ⟨⟨k3.1.1, k3.1.2.1, k3.1.2.2.1, rfl⟩, k3.2.1, k3.2.2.1, fun r hr2 => ?_, k3.2.2.2.2⟩
            have hr2 : r < g 0 3 + 1 := hr2
            show upd (S 18) (g 0 3) (nI lo) r = nI (hu g 5 (g 0 3) lo 5 r) ∧ upd (S 19) (g 0 3) (nI v) r = nI (hu (hu g 5 (g 0 3) lo) 6 (g 0 3) v 6 r)
            by_cases e : r = g 0 3
            · subst e; rw [hu_at, hu_at, upd_at, upd_at]; exact ⟨rfl, rfl⟩
            · rw [hu_ne _ e, hu_ne _ e, upd_ne _ _ e, upd_ne _ _ e]; exact k3.2.2.2.1 r (by omega)
        · have e6' : g 0 3 = 6 := by omega
          have p1 : ¬ nI (g 0 3) < 6 := by rw [e6']; decide
          have p3 : nI (g 0 3) = 6 := by rw [e6']; rfl
          simp only [e3, e4, e5, e6, e7, t1, t2, z10, ↓reduceIte, k3.1.2.2.2, k2.1.2.2.2.2, p1, p3]
          exact ⟨_, _, rfl, rfl, rfl, hI⟩
    · by_cases e7 : a2 < 0
      · simp only [e3, e4, e5, e7, z10, ↓reduceIte]; exact ⟨_, _, rfl, rfl, rfl, hI⟩
      · have e8 : ¬ a2 ≤ 99 := e6.resolve_left e7
        simp only [e3, e4, e5, e7, e8, z10, ↓reduceIte]; exact ⟨_, _, rfl, rfl, rfl, hI⟩
  · simp only [e3, e4, z10, ↓reduceIte]
    exact ⟨_, _, rfl, rfl, rfl, hI⟩
